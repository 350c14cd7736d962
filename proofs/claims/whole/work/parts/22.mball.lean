/-! ===== the reference's ball ===== -/
theorem s_rowOf {σ : St} {p : Nat} (hp : p < 9) {P : Int32 → St → Prop} (h : P (tROW p) σ) : w_X8_rowOf (nI p) σ P := by
  rcases (show p = 0 ∨ p = 1 ∨ p = 2 ∨ p = 3 ∨ p = 4 ∨ p = 5 ∨ p = 6 ∨ p = 7 ∨ p = 8 by omega) with rfl | rfl | rfl | rfl | rfl | rfl | rfl | rfl | rfl
  · exact ⟨fun c => absurd rfl c, fun _ => h⟩
  · exact ⟨fun _ => ⟨fun c => absurd c (by decide), fun _ => h⟩, fun c => absurd c (by decide)⟩
  · exact ⟨fun _ => ⟨fun c => absurd c (by decide), fun _ => h⟩, fun c => absurd c (by decide)⟩
  · exact ⟨fun _ => ⟨fun _ => ⟨fun c => absurd c (by decide), fun _ => h⟩, fun c => absurd (by decide) c⟩, fun c => absurd c (by decide)⟩
  · exact ⟨fun _ => ⟨fun _ => ⟨fun c => absurd c (by decide), fun _ => h⟩, fun c => absurd (by decide) c⟩, fun c => absurd c (by decide)⟩
  · exact ⟨fun _ => ⟨fun _ => ⟨fun c => absurd c (by decide), fun _ => h⟩, fun c => absurd (by decide) c⟩, fun c => absurd c (by decide)⟩
  · exact ⟨fun _ => ⟨fun _ => ⟨fun _ => ⟨fun c => absurd c (by decide), fun _ => h⟩, fun c => absurd (by decide) c⟩, fun c => absurd (by decide) c⟩, fun c => absurd c (by decide)⟩
  · exact ⟨fun _ => ⟨fun _ => ⟨fun _ => ⟨fun c => absurd c (by decide), fun _ => h⟩, fun c => absurd (by decide) c⟩, fun c => absurd (by decide) c⟩, fun c => absurd c (by decide)⟩
  · exact ⟨fun _ => ⟨fun _ => ⟨fun _ => ⟨fun _ => h, fun c => absurd (by decide) c⟩, fun c => absurd (by decide) c⟩, fun c => absurd (by decide) c⟩, fun c => absurd c (by decide)⟩
theorem s_colOf {σ : St} {p : Nat} (hp : p < 9) {P : Int32 → St → Prop} (h : P (tCOL p) σ) : w_X8_columnOf (nI p) σ P := by
  unfold w_X8_columnOf w_X8_columnOf_b10
  rcases (show p = 0 ∨ p = 1 ∨ p = 2 ∨ p = 3 ∨ p = 4 ∨ p = 5 ∨ p = 6 ∨ p = 7 ∨ p = 8 by omega) with rfl | rfl | rfl | rfl | rfl | rfl | rfl | rfl | rfl
  · exact ⟨fun _ => h, fun c => absurd rfl c⟩
  · exact ⟨fun c => absurd c (by decide), fun _ => ⟨fun _ => ⟨fun c => absurd c (by decide), fun _ => h⟩, fun c => absurd c (by decide)⟩⟩
  · exact ⟨fun c => absurd c (by decide), fun _ => ⟨fun _ => ⟨fun c => absurd c (by decide), fun _ => h⟩, fun c => absurd c (by decide)⟩⟩
  · exact ⟨fun c => absurd c (by decide), fun _ => ⟨fun _ => ⟨fun _ => ⟨fun c => absurd c (by decide), fun _ => h⟩, fun c => absurd (by decide) c⟩, fun c => absurd c (by decide)⟩⟩
  · exact ⟨fun c => absurd c (by decide), fun _ => ⟨fun _ => ⟨fun _ => ⟨fun c => absurd c (by decide), fun _ => h⟩, fun c => absurd (by decide) c⟩, fun c => absurd c (by decide)⟩⟩
  · exact ⟨fun c => absurd c (by decide), fun _ => ⟨fun _ => ⟨fun _ => ⟨fun c => absurd c (by decide), fun _ => h⟩, fun c => absurd (by decide) c⟩, fun c => absurd c (by decide)⟩⟩
  · exact ⟨fun c => absurd c (by decide), fun _ => ⟨fun _ => ⟨fun _ => ⟨fun _ => h, fun c => absurd (by decide) c⟩, fun c => absurd (by decide) c⟩, fun c => absurd c (by decide)⟩⟩
  · exact ⟨fun c => absurd c (by decide), fun _ => ⟨fun _ => ⟨fun _ => ⟨fun _ => h, fun c => absurd (by decide) c⟩, fun c => absurd (by decide) c⟩, fun c => absurd c (by decide)⟩⟩
  · exact ⟨fun c => absurd c (by decide), fun _ => ⟨fun c => absurd rfl c, fun _ => h⟩⟩
def pAtF (row col : Int32) : Nat → Nat → Int32
  | 0, _ => -1
  | m + 1, p => if tROW p = row ∧ tCOL p = col then nI p else pAtF row col m (p + 1)
theorem pAtF_no (row col : Int32) (h : ∀ p, p < 9 → ¬ (tROW p = row ∧ tCOL p = col)) : ∀ m p, p + m = 9 → pAtF row col m p = -1 := by
  intro m
  induction m with
  | zero => intro p _; rfl
  | succ m ih =>
    intro p hp
    unfold pAtF
    rw [if_neg (h p (by omega))]
    exact ih (p + 1) (by omega)
theorem pAtF_yes (row col : Int32) {q : Nat} (hq : q < 9) (h1 : tROW q = row ∧ tCOL q = col) (h : ∀ p, p < 9 → tROW p = row ∧ tCOL p = col → p = q) : ∀ m p, p + m = 9 → p ≤ q → pAtF row col m p = nI q := by
  intro m
  induction m with
  | zero => intro p hp hpq; omega
  | succ m ih =>
    intro p hp hpq
    unfold pAtF
    by_cases e : tROW p = row ∧ tCOL p = col
    · rw [if_pos e, h p (by omega) e]
    · rw [if_neg e]
      refine ih (p + 1) (by omega) ?_
      rcases Nat.lt_or_ge p q with z | z
      · exact z
      · have : p = q := by omega
        subst this; exact absurd h1 e
theorem tRC_inj : ∀ p q : Fin 9, tROW p.val = tROW q.val → tCOL p.val = tCOL q.val → p = q := by decide +kernel
theorem pAtF_plT (row col : Int32) : pAtF row col 9 0 = plT row col := by
  rcases plT_rng row col with e | ⟨p, hp, e, e2, e3⟩
  · rw [e]
    refine pAtF_no row col (fun p hp z => ?_) 9 0 rfl
    have := plT_of ⟨p, hp⟩
    rw [z.1, z.2, e] at this
    have h2 : ¬ nI p < 0 := nI_pos (by omega)
    rw [← this] at h2
    exact h2 (by decide)
  · rw [e]
    exact pAtF_yes row col hp ⟨e2, e3⟩ (fun q hq z => congrArg Fin.val (tRC_inj ⟨q, hq⟩ ⟨p, hp⟩ (z.1.trans e2.symm) (z.2.trans e3.symm))) 9 0 rfl (by omega)
theorem s_plateAt_loop {σ : St} {row col : Int32} {P : Int32 → St → Prop} : ∀ m p, p + m = 9 → P (pAtF row col m p) σ → w_X8_plateAt_b2 row col P (m + 1) (nI p) σ := by
  intro m
  induction m with
  | zero =>
    intro p hp h
    have : p = 9 := by omega
    subst this
    unfold w_X8_plateAt_b2
    exact ⟨fun _ => h, fun c => absurd (by decide) c⟩
  | succ m ih =>
    intro p hp h
    unfold w_X8_plateAt_b2
    refine ⟨fun c => absurd c (nI_ge (a := p) (b := 9) (by omega) (by decide)), fun _ => ?_⟩
    unfold pAtF at h
    refine s_rowOf (by omega) ⟨fun c => ?_, fun c => ?_⟩
    · rw [if_neg (fun z => c z.1)] at h
      unfold w_X8_plateAt_b26
      rw [nI_1]
      exact ih (p + 1) (by omega) h
    · refine s_colOf (by omega) ⟨fun c2 => ?_, fun c2 => ?_⟩
      · rw [if_neg (fun z => c2 z.2)] at h
        unfold w_X8_plateAt_b26
        rw [nI_1]
        exact ih (p + 1) (by omega) h
      · rw [if_pos ⟨c, c2⟩] at h
        exact h
theorem s_plateAt {σ : St} {row col : Int32} {P : Int32 → St → Prop} (h : P (plT row col) σ) : w_X8_plateAt row col σ P := by
  rw [← pAtF_plT] at h
  exact ⟨10, s_plateAt_loop 9 0 rfl h⟩
theorem s_plateOf_loop {σ : St} {k : Int32} {p : Nat} (hp : p < 9) (h1 : σ 195 p = k) (h2 : ∀ q, q < p → ¬ σ 195 q = k) {P : Int32 → St → Prop} (h : P (nI p) σ) : ∀ m q, q + m = p → w_X8_plateOf_b2 k P (m + 1) (nI q) σ := by
  intro m
  induction m with
  | zero =>
    intro q hq
    have : q = p := by omega
    subst this
    unfold w_X8_plateOf_b2
    rw [cl_nI (by omega)]
    exact ⟨in_nI hp, fun _ => h, fun c => absurd h1 c⟩
  | succ m ih =>
    intro q hq
    unfold w_X8_plateOf_b2
    rw [cl_nI (by omega)]
    refine ⟨in_nI (by omega), fun c => absurd c (h2 q (by omega)), fun _ => ?_⟩
    rw [nI_1]
    exact ih (q + 1) (by omega)
theorem s_plateOf {σ : St} {k : Int32} {p : Nat} (hp : p < 9) (h1 : σ 195 p = k) (h2 : ∀ q, q < p → ¬ σ 195 q = k) {P : Int32 → St → Prop} (h : P (nI p) σ) : w_X8_plateOf k σ P := ⟨p + 1, s_plateOf_loop hp h1 h2 h p 0 (by omega)⟩
theorem s_mhas {σ : St} {a k : Int32} {P : Int32 → St → Prop} (h : P (if (a >>> (k &&& 31)) &&& 1 = 1 then 1 else 0) σ) : w_X8_has a k σ P := by
  refine ⟨fun c => ?_, fun c => ?_⟩
  · rw [if_neg c] at h; exact h
  · rw [if_pos c] at h; exact h
theorem s_rocksNow {σ : St} {b : BS} {s : Int32} {P : St → Prop} (hs : vp_in s 9) (h : P (pM σ (rkF s b))) : w_X8_rocksNow s (pM σ b) P := by
  refine ⟨hs, hs, bS ?_⟩
  have e : su (su (pM σ b) 197 s.toNatClampNeg ((pM σ b) 197 s.toNatClampNeg + 1)) 185 27 ((su (pM σ b) 197 s.toNatClampNeg ((pM σ b) 197 s.toNatClampNeg + 1)) 185 27 + 1) = pM σ (rkF s b) := by
    rw [pM_3, pM_2]; rfl
  rw [e]; exact h
theorem s_fallsNow {σ : St} {b : BS} {s y : Int32} {P : St → Prop} (hs : vp_in s 9) (h : P (pM σ (dnF s y b))) : w_X8_fallsNow s y (pM σ b) P := by
  refine ⟨hs, bS ?_⟩
  have e : su (su (pM σ b) 185 26 ((pM σ b) 185 26 &&& (((1 : Int32) <<< (s &&& 31)) ^^^ (-1 : Int32)))) 198 s.toNatClampNeg y = pM σ (dnF s y b) := by
    rw [pM_1, pM_4]; rfl
  rw [e]; exact h
/-- the pins of the plates: each at most once -/
def onOk (on : Nat → Int32) : Prop := (∀ p, p < 9 → on p = -1 ∨ ∃ s : Nat, s < 9 ∧ on p = nI s) ∧ ∀ p q, p < 9 → q < 9 → on p = on q → ¬ on p = -1 → p = q
def EqS (σ σ' : St) : Prop := ∀ q, q ≠ 199 → q ≠ 200 → q ≠ 201 → σ' q = σ q
/-- what one that fell does to one side, to both -/
def sdF (on bear : Nat → Int32) (d : Nat) (s row col n sd : Int32) (b : BS) : BS := if n / 2 < 1 then b else if 5 ≤ row + 1 then b else stF (tpF on bear d) on bear s (row + 1) (col + sd) (n / 2) b
theorem tpF_sd (on bear : Nat → Int32) (d : Nat) (s y row col n : Int32) (b : BS) : tpF on bear (d + 1) s y row col n b = sdF on bear d s row col n 1 (sdF on bear d s row col n (-1) (dnF s y b)) := by
  have e : ∀ c : Int32, c - 1 = c + -1 := fun c => Int32.sub_eq_add_neg c 1
  unfold tpF sdF
  rw [e]
  by_cases h1 : n / 2 < 1
  · simp only [if_pos h1]
  · by_cases h2 : 5 ≤ row + 1
    · simp only [if_neg h1, if_pos h2]
    · simp only [if_neg h1, if_neg h2]
/-- the one in a place, by the plate -/
theorem whoF_p {on : Nat → Int32} (ho : onOk on) {up row col : Int32} {p : Nat} (hp : p < 9) (e : plT row col = nI p) : whoF on up row col = if on p = -1 then -1 else if (up >>> (on p &&& 31)) &&& 1 = 1 then on p else -1 := by
  unfold whoF
  rw [e, if_neg (nI_pos (by omega)), cl_nI (by omega)]
  rcases ho.1 p hp with z | ⟨s, hs, z⟩
  · rw [z, if_pos (Or.inl (by decide)), if_pos rfl]
  · have h1 : ¬ nI s < 0 := nI_pos (by omega)
    have h2 : ¬ (9 : Int32) ≤ nI s := nI_ge (a := s) (b := 9) hs (by decide)
    have h3 : ¬ nI s = -1 := fun q => by rw [q] at h1; exact h1 (by decide)
    rw [z, if_neg h3]
    by_cases h4 : (up >>> (nI s &&& 31)) &&& 1 = 1
    · rw [if_neg (by rintro (q | q | q); exact h1 q; exact h2 q; exact q h4), if_pos h4]
    · rw [if_pos (Or.inr (Or.inr h4)), if_neg h4]
theorem whoF_n {on : Nat → Int32} {up row col : Int32} (e : plT row col = -1) : whoF on up row col = -1 := by
  unfold whoF; rw [e, if_pos (by decide)]
