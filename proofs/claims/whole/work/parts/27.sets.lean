/-! ===== the reference: bears, plates; both: two plates change ===== -/
theorem GM.z {σ : St} {c : Nat} {C : Cty} (h : GM σ c 0 C) : (∀ k, k < cn C → σ c k = cd C 4 k ∧ σ c (9 + k) = cd C 5 k ∧ σ c (18 + k) = cd C 6 k ∧ σ c (27 + k) = cd C 1 k ∧ σ c (36 + k) = cd C 3 k) ∧ σ c 45 = cu C ∧ σ c 46 = ct C ∧ σ c 47 = co C := by
  simpa [GM] using h
theorem GM.of_z {σ : St} {c : Nat} {C : Cty} (h : (∀ k, k < cn C → σ c k = cd C 4 k ∧ σ c (9 + k) = cd C 5 k ∧ σ c (18 + k) = cd C 6 k ∧ σ c (27 + k) = cd C 1 k ∧ σ c (36 + k) = cd C 3 k) ∧ σ c 45 = cu C ∧ σ c 46 = ct C ∧ σ c 47 = co C) : GM σ c 0 C := by
  simpa [GM] using h
theorem le1 {m : Int32} : (if 1 < m then m else 1) = (if 1 ≤ m then m else 1) := by
  by_cases h : 1 < m
  · rw [if_pos h, if_pos (Int32.le_of_lt h)]
  · rw [if_neg h]
    by_cases h2 : 1 ≤ m
    · rw [if_pos h2]; exact Int32.le_antisymm h2 (Int32.not_lt.mp h)
    · rw [if_neg h2]
theorem tROW_0 : ∀ p : Fin 9, tROW p.val = 0 ↔ nI p.val = 0 := by decide +kernel
theorem i32_z (x : Int32) : (0 : Int32) + x = x := Int32.zero_add x
theorem s_bearsOn {σ : St} {k p : Nat} (hk : k < 9) (hp : p < 9) {P : Int32 → St → Prop} (h : P (bearF (σ 189 (27 + k)) (σ 188 k) (σ 189 (36 + k)) (nI p)) σ) : w_X8_bearsOn (nI k) (nI p) σ P := by
  have a1 : (27 : Int32) + nI k = nI (27 + k) := nI_add 27 k
  have a2 : (36 : Int32) + nI k = nI (36 + k) := nI_add 36 k
  have hv : vp_in (nI k) 9 := in_nI hk
  unfold w_X8_bearsOn
  rw [a1, a2, cl_nI (by omega), cl_nI (by omega), cl_nI (by omega)]
  refine ⟨in_nI (by omega), in_nI (by omega), ?_⟩
  generalize σ 189 (27 + k) = kd at h ⊢
  generalize σ 188 k = wt at h ⊢
  generalize σ 189 (36 + k) = ch at h ⊢
  unfold bearF at h
  -- the last step: it is 1 at least
  have fin : ∀ a b : Int32, P (if 1 < a + b then a + b else 1) σ → w_X8_bearsOn_b79 (nI k) (nI p) P a b σ := by
    intro a b hh
    rw [le1] at hh
    refine ⟨fun c => ?_, fun c => ?_⟩
    · rw [if_pos c] at hh; exact hh
    · rw [if_neg c] at hh; exact hh
  have fin0 : ∀ a : Int32, P (if 1 < a then a else 1) σ → w_X8_bearsOn_b78 (nI k) (nI p) P a σ := by
    intro a hh
    refine fin a 0 ?_
    rw [Int32.add_zero]; exact hh
  refine ⟨fun c3 => ⟨hv, fun c1 => ?_, fun c1 => ?_⟩, fun c3 => ⟨hv, ?_⟩⟩
  · unfold w_X8_bearsOn_b57 w_X8_bearsOn_b58
    rw [if_neg c1] at h
    refine ⟨fun c2 => ?_, fun c2 => s_rowOf hp ⟨fun c4 => ?_, fun c4 => ?_⟩⟩
    · rw [if_neg (show ¬ (kd = 2 ∧ nI p = 0) from fun z => c2 z.1), if_neg c3] at h
      exact fin0 _ h
    · rw [if_neg (show ¬ (kd = 2 ∧ nI p = 0) from fun z => c4 ((tROW_0 ⟨p, hp⟩).mpr z.2)), if_neg c3] at h
      exact fin0 _ h
    · rw [if_pos (show kd = 2 ∧ nI p = 0 from ⟨c2, (tROW_0 ⟨p, hp⟩).mp c4⟩)] at h
      exact fin _ _ h
  · unfold w_X8_bearsOn_b57 w_X8_bearsOn_b58
    rw [if_pos c1] at h
    refine ⟨fun c2 => fin0 _ h, fun c2 => ?_⟩
    rw [c1] at c2; exact absurd c2 (by decide)
  · unfold w_X8_bearsOn_b58
    rw [if_neg (show ¬ kd = 1 from fun z => by rw [z] at c3; exact absurd c3 (by decide)), if_neg (show ¬ (kd = 2 ∧ nI p = 0) from fun z => by rw [z.1] at c3; exact absurd c3.symm (by decide)), if_pos c3] at h
    refine ⟨fun c2 => fin0 _ h, fun c2 => ?_⟩
    rw [c2] at c3; exact absurd c3 (by decide)
def swp (p q x : Int32) : Int32 := if x = p then q else if x = q then p else x
def plS (C : Cty) (p q k : Nat) : Int32 := swp (nI p) (nI q) (cd C 4 k)
theorem plS_rng {C : Cty} (hC : COk C) {p q k : Nat} (hp : p < 9) (hq : q < 9) (hk : k < cn C) : ∃ a : Nat, a < 9 ∧ plS C p q k = nI a := by
  unfold plS swp
  split
  · exact ⟨q, hq, rfl⟩
  · split
    · exact ⟨p, hp, rfl⟩
    · exact (hC.2.1 k hk).2.2.2.1
theorem s_sets {σ : St} {C : Cty} (hC : COk C) (hM : GM σ 189 0 C) (hG : MG σ C) {p q : Nat} (hp : p < 9) (hq : q < 9) {P : St → Prop}
    (h : ∀ σ', (∀ r, r ≠ 195 → r ≠ 196 → σ' r = σ r) → (∀ r, r < 9 → σ' 195 r = onF (plS C p q) (cn C) r) → (∀ k, k < cn C → σ' 196 k = bearF (cd C 1 k) (cd C 2 k) (cd C 3 k) (plS C p q k)) → P σ') : w_X8_sets (nI p) (nI q) σ P := by
  have hn := hC.1
  obtain ⟨m1, -⟩ := hM.z
  have loop2 : ∀ m i τ, i + m = cn C → (∀ r, r ≠ 195 → r ≠ 196 → τ r = σ r) → (∀ r, r < 9 → τ 195 r = onF (plS C p q) i r) → (∀ k, k < i → τ 196 k = bearF (cd C 1 k) (cd C 2 k) (cd C 3 k) (plS C p q k)) → w_X8_sets_b23 (nI p) (nI q) P (m + 1) (nI i) τ := by
    intro m
    induction m with
    | zero =>
      intro i τ hi a1 a2 a3
      have : i = cn C := by omega
      subst this
      unfold w_X8_sets_b23
      rw [a1 185 (by decide) (by decide), hG.1]
      exact ⟨fun _ => h τ a1 a2 a3, fun c => absurd (nI_le (Nat.le_refl _) (by omega)) c⟩
    | succ m ih =>
      intro i τ hi a1 a2 a3
      have hin : i < cn C := by omega
      obtain ⟨b1, b2, b3, b4, b5⟩ := m1 i hin
      have step : ∀ s0, s0 = plS C p q i → w_X8_sets_b63 (nI p) (nI q) (w_X8_sets_b23 (nI p) (nI q) P (m + 1)) P (nI i) s0 τ := by
        intro s0 hs
        obtain ⟨a, ha, ea⟩ := plS_rng hC hp hq hin
        have hs2 : s0 = nI a := hs.trans ea
        subst hs2
        unfold w_X8_sets_b63
        rw [cl_nI (by omega), cl_nI (by omega)]
        refine ⟨in_nI ha, s_bearsOn (by omega) ha ⟨in_nI (by omega), ?_⟩⟩
        rw [nI_1]
        refine ih (i + 1) _ (by omega) (fun r c1 c2 => ?_) (fun r hr => ?_) (fun k hk => ?_)
        · rw [su_q c2, su_q c1]; exact a1 r c1 c2
        · rw [su_q (by decide)]
          conv => rhs; unfold onF
          rw [ea]
          by_cases e : r = a
          · subst e; rw [su_s, if_pos rfl]
          · rw [su_k e, if_neg (fun z => e (nI_inj (by omega) (by omega) z.symm))]
            exact a2 r hr
        · by_cases e : k = i
          · subst e
            rw [su_s, su_q (by decide), su_q (by decide), a1 189 (by decide) (by decide), a1 188 (by decide) (by decide), b4, b5, hG.2.1 k hin, ea]
          · rw [su_k e, su_q (by decide)]; exact a3 k (by omega)
      unfold w_X8_sets_b23
      rw [a1 185 (by decide) (by decide), hG.1, i32_z, cl_nI (by omega), a1 189 (by decide) (by decide), b1]
      refine ⟨fun c => absurd c (nI_ge hin (by omega)), fun _ => ⟨in_nI (by omega), fun c => ⟨fun c2 => ?_, fun c2 => ?_⟩, fun c => ?_⟩⟩
      · exact step _ (by unfold plS swp; rw [if_neg c, if_neg c2])
      · exact step _ (by unfold plS swp; rw [if_neg c, if_pos c2])
      · exact step _ (by unfold plS swp; rw [if_pos c])
  have loop1 : ∀ m i τ, i + m = 9 → (∀ r, r ≠ 195 → r ≠ 196 → τ r = σ r) → (∀ r, r < i → τ 195 r = -1) → w_X8_sets_b2 (nI p) (nI q) P (m + 1) (nI i) τ := by
    intro m
    induction m with
    | zero =>
      intro i τ hi a1 a2
      have : i = 9 := by omega
      subst this
      unfold w_X8_sets_b2
      refine ⟨fun _ => ⟨cn C + 1, ?_⟩, fun c => absurd (by decide) c⟩
      exact loop2 (cn C) 0 τ (by omega) a1 a2 (fun k hk => by omega)
    | succ m ih =>
      intro i τ hi a1 a2
      unfold w_X8_sets_b2
      rw [cl_nI (by omega), nI_1]
      refine ⟨fun c => absurd c (nI_ge (a := i) (b := 9) (by omega) (by decide)), fun _ => ⟨in_nI (by omega), ?_⟩⟩
      refine ih (i + 1) _ (by omega) (fun r c1 c2 => by rw [su_q c1]; exact a1 r c1 c2) (fun r hr => ?_)
      by_cases e : r = i
      · subst e; exact su_s
      · rw [su_k e]; exact a2 r (by omega)
  exact ⟨10, loop1 9 0 σ rfl (fun _ _ _ => rfl) (fun r hr => by omega)⟩
theorem s_whoOn {σ : St} {C : Cty} (hC : COk C) (hM : GM σ 189 0 C) (hG : MG σ C) {p : Nat} {P : Int32 → St → Prop} (h : P (onC C p) σ) : w_X8_whoOn (nI p) σ P := by
  have hn := hC.1
  obtain ⟨m1, -⟩ := hM.z
  have loop : ∀ m i, i + m = cn C → w_X8_whoOn_b4 (nI p) P (m + 1) (onF (cd C 4) i p) (nI i) σ := by
    intro m
    induction m with
    | zero =>
      intro i hi
      have : i = cn C := by omega
      subst this
      unfold w_X8_whoOn_b4
      rw [hG.1]
      exact ⟨fun _ => h, fun c => absurd (nI_le (Nat.le_refl _) (by omega)) c⟩
    | succ m ih =>
      intro i hi
      have hin : i < cn C := by omega
      unfold w_X8_whoOn_b4
      rw [hG.1, i32_z, cl_nI (by omega), (m1 i hin).1]
      refine ⟨fun c => absurd c (nI_ge hin (by omega)), fun _ => ⟨in_nI (by omega), fun c => ?_, fun c => ?_⟩⟩
      · unfold w_X8_whoOn_b29
        rw [nI_1]
        have e : onF (cd C 4) (i + 1) p = onF (cd C 4) i p := if_neg c
        rw [← e]
        exact ih (i + 1) (by omega)
      · unfold w_X8_whoOn_b29
        rw [nI_1]
        have e : onF (cd C 4) (i + 1) p = nI i := if_pos c
        rw [← e]
        exact ih (i + 1) (by omega)
  exact ⟨cn C + 1, loop (cn C) 0 (by omega)⟩
/-- two plates change -/
def swC (C : Cty) (p q : Nat) : Cty := (cn C, cf C, fun i k => if i = 4 then plS C p q k else cd C i k, cu C, ct C, co C)
def swN (p q r : Nat) : Nat := if r = p then q else if r = q then p else r
theorem swp_nI {p q r : Nat} (hp : p < 9) (hq : q < 9) (hr : r < 9) (x : Int32) : swp (nI p) (nI q) x = nI r ↔ x = nI (swN p q r) := by
  have ne : ∀ a b : Nat, a < 9 → b < 9 → a ≠ b → nI a ≠ nI b := fun a b ha hb h e => h (nI_inj (by omega) (by omega) e)
  unfold swp swN
  by_cases h1 : x = nI p
  · rw [if_pos h1, h1]
    by_cases h3 : r = p
    · rw [if_pos h3, h3]; exact eq_comm
    · rw [if_neg h3]
      by_cases h2 : r = q
      · rw [if_pos h2, h2]; simp
      · rw [if_neg h2]
        exact ⟨fun e => absurd e (ne q r hq hr (Ne.symm h2)), fun e => absurd e (ne p r hp hr (Ne.symm h3))⟩
  · rw [if_neg h1]
    by_cases h2 : x = nI q
    · rw [if_pos h2, h2]
      by_cases h3 : r = p
      · rw [if_pos h3, h3]; simp
      · rw [if_neg h3]
        by_cases h4 : r = q
        · rw [if_pos h4, h4]; exact eq_comm
        · rw [if_neg h4]
          exact ⟨fun e => absurd e (ne p r hp hr (Ne.symm h3)), fun e => absurd e (ne q r hq hr (Ne.symm h4))⟩
    · rw [if_neg h2]
      by_cases h3 : r = p
      · rw [if_pos h3, h3]
        exact ⟨fun e => absurd e h1, fun e => absurd e h2⟩
      · rw [if_neg h3]
        by_cases h4 : r = q
        · rw [if_pos h4, h4]
          exact ⟨fun e => absurd e h2, fun e => absurd e h1⟩
        · rw [if_neg h4]
theorem swN_lt {p q r : Nat} (hp : p < 9) (hq : q < 9) (hr : r < 9) : swN p q r < 9 := by
  unfold swN; split
  · exact hq
  · split
    · exact hp
    · exact hr
theorem onF_sw {C : Cty} {p q r : Nat} (hp : p < 9) (hq : q < 9) (hr : r < 9) : ∀ n, onF (plS C p q) n r = onF (cd C 4) n (swN p q r) := by
  intro n
  induction n with
  | zero => rfl
  | succ n ih =>
    unfold onF
    rw [ih]
    by_cases h : plS C p q n = nI r
    · rw [if_pos h, if_pos ((swp_nI hp hq hr _).mp h)]
    · rw [if_neg h, if_neg (fun z => h ((swp_nI hp hq hr _).mpr z))]
theorem onC_sw {C : Cty} {p q r : Nat} (hp : p < 9) (hq : q < 9) (hr : r < 9) : onC (swC C p q) r = onC C (swN p q r) := onF_sw hp hq hr (cn C)
theorem swp_inj {p q x y : Int32} (h : swp p q x = swp p q y) : x = y := by
  unfold swp at h
  split at h <;> split at h <;> first | (split at h <;> first | (split at h <;> simp_all) | simp_all) | simp_all
theorem swC_ok {C : Cty} (hC : COk C) {p q : Nat} (hp : p < 9) (hq : q < 9) : COk (swC C p q) := by
  obtain ⟨h1, h2, h3, h4, h5⟩ := hC
  refine ⟨h1, fun k hk => ?_, fun j k hj hk e => ?_, h4, h5⟩
  · obtain ⟨a1, a2, a3, a4, a5⟩ := h2 k hk
    exact ⟨a1, a2, a3, plS_rng ⟨h1, h2, h3, h4, h5⟩ hp hq hk, a5⟩
  · exact h3 j k hj hk (swp_inj e)
