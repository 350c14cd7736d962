/-! ===== the county, as numbers: how many, floor, what each is (1 kind, 2 weight, 3 chip, 4 plate, 5 rocked, 6 taken), who stands, throws, floorers ===== -/
abbrev Cty : Type := Nat × Int32 × (Nat → Nat → Int32) × Int32 × Int32 × Int32
abbrev cn (C : Cty) : Nat := C.1
abbrev cf (C : Cty) : Int32 := C.2.1
abbrev cd (C : Cty) : Nat → Nat → Int32 := C.2.2.1
abbrev cu (C : Cty) : Int32 := C.2.2.2.1
abbrev ct (C : Cty) : Int32 := C.2.2.2.2.1
abbrev co (C : Cty) : Int32 := C.2.2.2.2.2
/-- who is on a plate -/
def onF (pl : Nat → Int32) : Nat → Nat → Int32
  | 0, _ => -1
  | k + 1, p => if pl k = nI p then nI k else onF pl k p
def onC (C : Cty) (p : Nat) : Int32 := onF (cd C 4) (cn C) p
def bearF (kd wt ch pl : Int32) : Int32 :=
  if 1 < (if kd = 1 then wt - ch / 2 else if kd = 2 ∧ pl = 0 then wt - ch + 2 else if kd = 3 then wt / 2 else wt - ch) then (if kd = 1 then wt - ch / 2 else if kd = 2 ∧ pl = 0 then wt - ch + 2 else if kd = 3 then wt / 2 else wt - ch) else 1
def beC (C : Cty) (k : Nat) : Int32 := if k < cn C then bearF (cd C 1 k) (cd C 2 k) (cd C 3 k) (cd C 4 k) else 1
def COk (C : Cty) : Prop := cn C ≤ 9 ∧ (∀ k, k < cn C → (∃ a : Nat, a ≤ 3 ∧ cd C 1 k = nI a) ∧ (∃ a : Nat, 1 ≤ a ∧ a ≤ 20 ∧ cd C 2 k = nI a) ∧ (∃ a : Nat, a ≤ 9 ∧ cd C 3 k = nI a) ∧ (∃ a : Nat, a < 9 ∧ cd C 4 k = nI a) ∧ (cd C 6 k = -1 ∨ ∃ a : Nat, a < cn C ∧ cd C 6 k = nI a)) ∧ (∀ j k, j < cn C → k < cn C → cd C 4 j = cd C 4 k → j = k) ∧ (∃ u : Nat, u < 2 ^ cn C ∧ cu C = nI u) ∧ ((cf C = -1 ∧ cn C = 0) ∨ ∃ a : Nat, a ≤ 9 ∧ cf C = nI a)
/-- a Gentry's cells hold a county -/
def GX (σ : St) (g : Nat) (C : Cty) : Prop := σ g 7 = cf C ∧ σ g 8 = nI (cn C) ∧ σ g 9 = cu C ∧ σ g 10 = ct C ∧ σ g 11 = co C ∧ (∀ i k, 1 ≤ i → i ≤ 6 → k < cn C → σ (g + i) k = cd C i k) ∧ ∀ p, p < 9 → σ (g + 7) p = onC C p
/-- the reference's row holds a county -/
def GM (σ : St) (c o : Nat) (C : Cty) : Prop := (∀ k, k < cn C → σ c (o + k) = cd C 4 k ∧ σ c (o + 9 + k) = cd C 5 k ∧ σ c (o + 18 + k) = cd C 6 k ∧ σ c (o + 27 + k) = cd C 1 k ∧ σ c (o + 36 + k) = cd C 3 k) ∧ σ c (o + 45) = cu C ∧ σ c (o + 46) = ct C ∧ σ c (o + 47) = co C
/-- the reference's own numbers of the county: many, weights, floor -/
def MG (σ : St) (C : Cty) : Prop := σ 185 9 = nI (cn C) ∧ (∀ k, k < cn C → σ 188 k = cd C 2 k) ∧ ((cf C = -1 ∧ σ 185 7 = 0) ∨ (¬ cf C = -1 ∧ σ 185 7 = 1 ∧ σ 185 8 = cf C))
theorem GX.of {σ σ' : St} {g : Nat} {C : Cty} (h : GX σ g C) (e : ∀ q, g ≤ q → q < g + 8 → σ' q = σ q) : GX σ' g C := by
  obtain ⟨h1, h2, h3, h4, h5, h6, h7⟩ := h
  have e0 := e g (Nat.le_refl _) (by omega)
  refine ⟨by rw [e0]; exact h1, by rw [e0]; exact h2, by rw [e0]; exact h3, by rw [e0]; exact h4, by rw [e0]; exact h5, fun i k a b c => ?_, fun p hp => ?_⟩
  · rw [e (g + i) (by omega) (by omega)]; exact h6 i k a b c
  · rw [e (g + 7) (by omega) (by omega)]; exact h7 p hp
theorem GM.of {σ σ' : St} {c o : Nat} {C : Cty} (h : GM σ c o C) (hn : cn C ≤ 9) (e : ∀ k, o ≤ k → k < o + 48 → σ' c k = σ c k) : GM σ' c o C := by
  obtain ⟨h1, h2, h3, h4⟩ := h
  refine ⟨fun k hk => ?_, by rw [e _ (by omega) (by omega)]; exact h2, by rw [e _ (by omega) (by omega)]; exact h3, by rw [e _ (by omega) (by omega)]; exact h4⟩
  rw [e _ (by omega) (by omega), e (o + 9 + k) (by omega) (by omega), e (o + 18 + k) (by omega) (by omega), e (o + 27 + k) (by omega) (by omega), e (o + 36 + k) (by omega) (by omega)]
  exact h1 k hk
theorem nI_inj {a b : Nat} (ha : a < 2 ^ 31) (hb : b < 2 ^ 31) (h : nI a = nI b) : a = b := (nI_eq ha hb).mp h
theorem nI_m1 {s : Nat} (h : s < 2 ^ 31) : ¬ nI s = -1 := fun q => by
  have := nI_pos (n := s) h
  rw [q] at this; exact this (by decide)
theorem onF_rng (pl : Nat → Int32) : ∀ n p, onF pl n p = -1 ∨ ∃ k, k < n ∧ onF pl n p = nI k ∧ pl k = nI p := by
  intro n
  induction n with
  | zero => intro p; exact Or.inl rfl
  | succ n ih =>
    intro p
    unfold onF
    by_cases h : pl n = nI p
    · rw [if_pos h]; exact Or.inr ⟨n, by omega, rfl, h⟩
    · rw [if_neg h]
      rcases ih p with e | ⟨k, hk, e⟩
      · exact Or.inl e
      · exact Or.inr ⟨k, by omega, e⟩
theorem onF_at (pl : Nat → Int32) : ∀ n, (∀ j k, j < n → k < n → pl j = pl k → j = k) → ∀ k p, k < n → pl k = nI p → onF pl n p = nI k := by
  intro n
  induction n with
  | zero => intro _ k p hk; omega
  | succ n ih =>
    intro hi k p hk h
    unfold onF
    by_cases hn : pl n = nI p
    · rw [if_pos hn, hi n k (by omega) hk (hn.trans h.symm)]
    · rw [if_neg hn]
      have : k ≠ n := fun e => by subst e; exact hn h
      exact ih (fun j k a b => hi j k (by omega) (by omega)) k p (by omega) h
theorem onOk_onF {pl : Nat → Int32} {n : Nat} (hn : n ≤ 9) : onOk (onF pl n) := by
  refine ⟨fun p hp => ?_, fun p q hp hq e hne => ?_⟩
  · rcases onF_rng pl n p with e | ⟨k, hk, e, -⟩
    · exact Or.inl e
    · exact Or.inr ⟨k, by omega, e⟩
  · rcases onF_rng pl n p with z | ⟨k, hk, z, zp⟩
    · exact absurd z hne
    · rcases onF_rng pl n q with y | ⟨j, hj, y, yp⟩
      · rw [y] at e; exact absurd e hne
      · have : k = j := nI_inj (by omega) (by omega) (z.symm.trans (e.trans y))
        subst this
        exact nI_inj (by omega) (by omega) (zp.symm.trans yp)
theorem onOk.of {on on' : Nat → Int32} (h : onOk on) (e : ∀ p, p < 9 → on' p = on p) : onOk on' := by
  refine ⟨fun p hp => by rw [e p hp]; exact h.1 p hp, fun p q hp hq z hne => ?_⟩
  rw [e p hp, e q hq] at z
  rw [e p hp] at hne
  exact h.2 p q hp hq z hne
/-! the class: has, bears, prepare -/
theorem s_has {σ : St} {g n : Nat} (hn : n ≤ 9) (hc : σ g 8 = nI n) {k : Int32} {P : Int32 → St → Prop} (h1 : ∀ j : Nat, j < n → k = nI j → P 1 σ) (h0 : (¬ ∃ j : Nat, j < n ∧ k = nI j) → P 0 σ) : w_X3_has g k σ P := by
  refine ⟨fun c => h0 ?_, fun c => ⟨fun c2 => h0 ?_, fun c2 => ⟨fun c3 => h0 ?_, fun c3 => ?_⟩⟩⟩
  · rintro ⟨j, hj, rfl⟩; exact nI_pos (by omega) c
  · rintro ⟨j, hj, rfl⟩; rw [hc] at c2; exact nI_ge hj (by omega) c2
  · rintro ⟨j, hj, rfl⟩; exact nI_ge (a := j) (b := 9) (by omega) (by decide) c3
  · rw [hc] at c2
    obtain ⟨j, hj, e⟩ := rg (by omega) c c2
    exact h1 j hj e
theorem s_bears {σ : St} {g : Nat} {C : Cty} (hC : COk C) (hG : GX σ g C) {k : Nat} (hk : k < 9) {P : Int32 → St → Prop} (h : P (beC C k) σ) : w_X3_bears g (nI k) σ P := by
  obtain ⟨h1, h2, h3, h4, h5, h6, h7⟩ := hG
  have hn := hC.1
  have hv : vp_in (nI k) 9 := in_nI hk
  unfold w_X3_bears
  refine s_has hn h2 (fun j hj e => ?_) (fun hno => ?_)
  · have : j = k := nI_inj (by omega) (by omega) e.symm
    subst this
    unfold beC at h
    rw [if_pos hj] at h
    have e1 := h6 1 j (by decide) (by decide) hj
    have e2 := h6 2 j (by decide) (by decide) hj
    have e3 := h6 3 j (by decide) (by decide) hj
    have e4 := h6 4 j (by decide) (by decide) hj
    unfold w_X3_bears_b78 w_X3_bears_b97
    rw [cl_nI (by omega), e1, e2, e3, e4]
    unfold bearF at h
    refine ⟨fun _ => ⟨hv, hv, bI ⟨hv, fun c1 => ⟨hv, fun c2 => ⟨hv, fun c3 => ?_, fun c3 => ⟨hv, ?_⟩⟩, fun c2 => ⟨hv, fun c3 => ⟨hv, fun c4 => ?_, fun c4 => ?_⟩, fun c3 => ?_⟩⟩, fun c1 => ⟨hv, hv, bI ?_⟩⟩⟩, fun c => absurd c (by decide)⟩
    · rw [if_neg c1, if_neg (show ¬ (cd C 1 j = 2 ∧ cd C 4 j = 0) from fun z => c2 z.1), if_neg c3] at h; exact h
    · rw [if_neg c1, if_neg (show ¬ (cd C 1 j = 2 ∧ cd C 4 j = 0) from fun z => c2 z.1), if_pos c3] at h; exact h
    · rw [if_neg c1, if_neg (show ¬ (cd C 1 j = 2 ∧ cd C 4 j = 0) from fun z => c3 z.2), if_neg c4] at h; exact h
    · rw [c2] at c4; exact absurd c4 (by decide)
    · rw [if_neg c1, if_pos (show cd C 1 j = 2 ∧ cd C 4 j = 0 from ⟨c2, c3⟩)] at h; exact h
    · rw [if_pos c1] at h; exact h
  · unfold beC at h
    rw [if_neg (fun z => hno ⟨k, z, rfl⟩)] at h
    exact ⟨fun c => absurd rfl c, fun _ => h⟩
theorem s_prepare {σ : St} {g : Nat} (hg : isX3 g) {C : Cty} (hC : COk C) (hG : GX σ g C) {P : St → Prop}
    (h : ∀ σ', (∀ q, q ≠ 171 → q ≠ 172 → q ≠ 173 → σ' q = σ q) → σ' 171 4 = cf C / 3 → (∀ k, k ≠ 4 → σ' 171 k = σ 171 k) → (∀ p, p < 9 → σ' 172 p = onC C p) → (∀ k, k < 9 → σ' 173 k = beC C k) → P σ') : w_X5_prepare g σ P := by
  have hg1 := hg.1
  have loop : ∀ m i τ, i + m = 9 → (∀ q, q ≠ 171 → q ≠ 172 → q ≠ 173 → τ q = σ q) → τ 171 4 = cf C / 3 → (∀ k, k ≠ 4 → τ 171 k = σ 171 k) → (∀ p, p < i → τ 172 p = onC C p) → (∀ k, k < i → τ 173 k = beC C k) → w_X5_prepare_b12 g P (m + 1) (nI i) τ := by
    intro m
    induction m with
    | zero =>
      intro i τ hi a1 a2 a3 a4 a5
      have : i = 9 := by omega
      subst this
      exact ⟨fun _ => h τ a1 a2 a3 a4 a5, fun c => absurd (by decide) c⟩
    | succ m ih =>
      intro i τ hi a1 a2 a3 a4 a5
      have hv : vp_in (nI i) 9 := in_nI (by omega)
      unfold w_X5_prepare_b12
      rw [cl_nI (by omega)]
      refine ⟨fun c => absurd c (nI_ge (a := i) (b := 9) (by omega) (by decide)), fun _ => ⟨hv, hv, ?_⟩⟩
      have hG' : GX (su τ 172 i (τ (g + 7) i)) g C := hG.of (fun q b1 b2 => by rw [su_q (by omega), a1 q (by omega) (by omega) (by omega)])
      refine s_bears hC hG' (by omega) ⟨hv, ?_⟩
      rw [nI_1]
      refine ih (i + 1) _ (by omega) (fun q b1 b2 b3 => ?_) ?_ (fun k hk => ?_) (fun p hp => ?_) (fun k hk => ?_)
      · rw [su_q b3, su_q b2]; exact a1 q b1 b2 b3
      · rw [su_q (by decide), su_q (by decide)]; exact a2
      · rw [su_q (by decide), su_q (by decide)]; exact a3 k hk
      · rw [su_q (by decide)]
        by_cases e : p = i
        · subst e
          rw [su_s, a1 _ (by omega) (by omega) (by omega)]
          exact hG.2.2.2.2.2.2 p (by omega)
        · rw [su_k e]; exact a4 p (by omega)
      · by_cases e : k = i
        · subst e; rw [su_s]
        · rw [su_k e, su_q (by decide)]; exact a5 k (by omega)
  refine ⟨10, ?_⟩
  refine loop 9 0 _ rfl (fun q b1 b2 b3 => su_q b1) ?_ (fun k hk => su_k hk) (fun p hp => by omega) (fun k hk => by omega)
  rw [su_s, hG.1]
