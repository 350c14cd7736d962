/-! ===== two plates change; a county is copied; what can be undone ===== -/
theorem s_isPlate {σ : St} {p : Nat} (hp : p < 9) {P : Int32 → St → Prop} (h : P 1 σ) : w_X7_isPlate (nI p) σ P :=
  ⟨fun c => absurd c (nI_pos (by omega)), fun _ => ⟨fun c => absurd c (nI_ge (a := p) (b := 9) hp (by decide)), fun _ => h⟩⟩
def putS (σ : St) (g : Nat) (s : Int32) (p : Nat) : St := if s = -1 then su σ (g + 7) p s else su (su σ (g + 7) p s) (g + 4) s.toNatClampNeg (nI p)
theorem s_put {σ : St} {g n : Nat} (hn : n ≤ 9) (hc : σ g 8 = nI n) {s : Int32} (hs : s = -1 ∨ ∃ k : Nat, k < n ∧ s = nI k) {p : Nat} (hp : p < 9) {P : St → Prop} (h : P (putS σ g s p)) : w_X3_put g s (nI p) σ P := by
  unfold w_X3_put
  rw [cl_nI (by omega)]
  refine ⟨in_nI hp, ?_⟩
  have hc' : su σ (g + 7) p s g 8 = nI n := by rw [su_q (by omega)]; exact hc
  unfold putS at h
  refine s_has hn hc' (fun j hj e => ⟨fun c => absurd c (by decide), fun _ => ?_⟩) (fun hno => ⟨fun _ => ?_, fun c => absurd rfl c⟩)
  · subst e
    rw [if_neg (nI_m1 (by omega))] at h
    exact ⟨in_nI (by omega), h⟩
  · rcases hs with e | e
    · rw [if_pos e] at h; exact h
    · exact absurd e hno
theorem putS_o {σ : St} {g p : Nat} {s : Int32} {r : Nat} (h1 : r ≠ g + 7) (h2 : r ≠ g + 4) : putS σ g s p r = σ r := by
  unfold putS; split
  · rw [su_q h1]
  · rw [su_q h2, su_q h1]
theorem putS_7 {σ : St} {g p : Nat} {s : Int32} {r : Nat} : putS σ g s p (g + 7) r = if r = p then s else σ (g + 7) r := by
  have e : putS σ g s p (g + 7) r = su σ (g + 7) p s (g + 7) r := by
    unfold putS; split
    · rfl
    · rw [su_q (by omega)]
  rw [e, su_ap, if_pos rfl]
theorem putS_4 {σ : St} {g p n : Nat} (hn : n ≤ 9) {s : Int32} (hs : s = -1 ∨ ∃ k : Nat, k < n ∧ s = nI k) {k : Nat} (hk : k < n) : putS σ g s p (g + 4) k = if s = nI k then nI p else σ (g + 4) k := by
  unfold putS
  rcases hs with e | ⟨j, hj, e⟩
  · rw [if_pos e, if_neg (fun z => nI_m1 (s := k) (by omega) (z.symm.trans e)), su_q (by omega)]
  · subst e
    rw [if_neg (nI_m1 (by omega)), cl_nI (by omega)]
    by_cases h : k = j
    · subst h; rw [su_s, if_pos rfl]
    · rw [su_k h, if_neg (fun z => h (nI_inj (by omega) (by omega) z.symm)), su_q (by omega)]
theorem onC_rng {C : Cty} (p : Nat) : onC C p = -1 ∨ ∃ k : Nat, k < cn C ∧ onC C p = nI k := by
  rcases onF_rng (cd C 4) (cn C) p with e | ⟨k, hk, e, -⟩
  · exact Or.inl e
  · exact Or.inr ⟨k, hk, e⟩
theorem onC_iff {C : Cty} (hC : COk C) {p k : Nat} (hk : k < cn C) : onC C p = nI k ↔ cd C 4 k = nI p := by
  have hn := hC.1
  constructor
  · intro e
    rcases onF_rng (cd C 4) (cn C) p with z | ⟨j, hj, z, zp⟩
    · exact absurd (e.symm.trans z) (nI_m1 (by omega))
    · have : j = k := nI_inj (by omega) (by omega) (z.symm.trans e)
      subst this; exact zp
  · intro e; exact onF_at (cd C 4) (cn C) hC.2.2.1 k p hk e
theorem s_swap {σ : St} {g : Nat} (hg : isX3 g) {C : Cty} (hC : COk C) (hG : GX σ g C) {p q : Nat} (hp : p < 9) (hq : q < 9) {P : St → Prop}
    (h : ∀ σ', (∀ r, r ≠ g + 4 → r ≠ g + 7 → σ' r = σ r) → GX σ' g (swC C p q) → P σ') : w_X3_swap g (nI p) (nI q) σ P := by
  have hn := hC.1
  obtain ⟨h1, h2, h3, h4, h5, h6, h7⟩ := hG
  unfold w_X3_swap
  refine s_isPlate hp ⟨fun c => absurd c (by decide), fun _ => s_isPlate hq ⟨fun _ => ⟨in_nI hp, in_nI hq, ?_⟩, fun c => absurd c (by decide)⟩⟩
  rw [cl_nI (by omega), cl_nI (by omega), h7 p hp, h7 q hq]
  refine s_put hn h2 (onC_rng p) hq (s_put hn ?_ (onC_rng q) hp (h _ (fun r a b => ?_) ?_))
  · rw [putS_o (by omega) (by omega)]; exact h2
  · rw [putS_o b a, putS_o b a]
  · have o : ∀ r, r ≠ g + 7 → r ≠ g + 4 → putS (putS σ g (onC C p) q) g (onC C q) p r = σ r := fun r a b => by rw [putS_o a b, putS_o a b]
    refine ⟨by rw [o g (by omega) (by omega)]; exact h1, by rw [o g (by omega) (by omega)]; exact h2, by rw [o g (by omega) (by omega)]; exact h3, by rw [o g (by omega) (by omega)]; exact h4, by rw [o g (by omega) (by omega)]; exact h5, fun i k a b hk => ?_, fun r hr => ?_⟩
    · have hk' : k < cn C := hk
      by_cases hi : i = 4
      · subst hi
        rw [putS_4 hn (onC_rng q) hk', putS_4 hn (onC_rng p) hk', h6 4 k (by decide) (by decide) hk']
        show _ = plS C p q k
        unfold plS swp
        by_cases c1 : onC C q = nI k
        · have c2 := (onC_iff hC hk').mp c1
          rw [if_pos c1, c2]
          by_cases c3 : nI q = nI p
          · rw [if_pos c3, c3]
          · rw [if_neg c3, if_pos rfl]
        · rw [if_neg c1]
          have n1 : ¬ cd C 4 k = nI q := fun z => c1 ((onC_iff hC hk').mpr z)
          by_cases c2 : onC C p = nI k
          · rw [if_pos c2, if_pos ((onC_iff hC hk').mp c2)]
          · rw [if_neg c2, if_neg (fun z => c2 ((onC_iff hC hk').mpr z)), if_neg n1]
      · rw [o (g + i) (by omega) (by omega), h6 i k a b hk']
        show _ = if i = 4 then _ else _
        rw [if_neg hi]
    · rw [putS_7, putS_7, onC_sw hp hq hr]
      unfold swN
      by_cases c1 : r = p
      · rw [if_pos c1, if_pos c1]
      · rw [if_neg c1, if_neg c1]
        by_cases c2 : r = q
        · rw [if_pos c2, if_pos c2]
        · rw [if_neg c2, if_neg c2]; exact h7 r hr
theorem s_changes {σ : St} {C : Cty} (hC : COk C) (hM : GM σ 189 0 C) (hG : MG σ C) {p q : Nat} (hp : p < 9) (hq : q < 9) {P : St → Prop}
    (h : ∀ σ', (∀ r, r ≠ 189 → σ' r = σ r) → (∀ k, 9 ≤ k → σ' 189 k = σ 189 k) → GM σ' 189 0 (swC C p q) → P σ') : w_X8_changes (nI p) (nI q) σ P := by
  have hn := hC.1
  obtain ⟨m1, m2, m3, m4⟩ := hM.z
  unfold w_X8_changes
  refine s_whoOn hC hM hG (s_whoOn hC hM hG ?_)
  -- the state behind both
  have fin : ∀ τ, (∀ r, r ≠ 189 → τ r = σ r) → (∀ k, 9 ≤ k → τ 189 k = σ 189 k) → (∀ k, k < cn C → τ 189 k = plS C p q k) → P τ := by
    intro τ a1 a2 a3
    refine h τ a1 a2 (GM.of_z ⟨fun k hk => ?_, by rw [a2 45 (by decide)]; exact m2, by rw [a2 46 (by decide)]; exact m3, by rw [a2 47 (by decide)]; exact m4⟩)
    have hk' : k < cn C := hk
    obtain ⟨b1, b2, b3, b4, b5⟩ := m1 k hk'
    rw [a3 k hk', a2 (9 + k) (by omega), a2 (18 + k) (by omega), a2 (27 + k) (by omega), a2 (36 + k) (by omega)]
    exact ⟨rfl, b2, b3, b4, b5⟩
  have pl : ∀ k, k < cn C → plS C p q k = if onC C q = nI k then nI p else if onC C p = nI k then nI q else σ 189 k := by
    intro k hk
    rw [(m1 k hk).1]
    unfold plS swp
    by_cases c1 : onC C q = nI k
    · have c2 := (onC_iff hC hk).mp c1
      rw [if_pos c1, c2]
      by_cases c3 : nI q = nI p
      · rw [if_pos c3, c3]
      · rw [if_neg c3, if_pos rfl]
    · rw [if_neg c1]
      have n1 : ¬ cd C 4 k = nI q := fun z => c1 ((onC_iff hC hk).mpr z)
      by_cases c2 : onC C p = nI k
      · rw [if_pos c2, if_pos ((onC_iff hC hk).mp c2)]
      · rw [if_neg c2, if_neg (fun z => c2 ((onC_iff hC hk).mpr z)), if_neg n1]
  unfold w_X8_changes_b27
  refine ⟨fun c1 => ⟨fun c2 => ?_, fun c2 => ?_⟩, fun c1 => ?_⟩
  · refine fin σ (fun _ _ => rfl) (fun _ _ => rfl) (fun k hk => ?_)
    rw [pl k hk, c1, c2, if_neg (Ne.symm (nI_m1 (s := k) (by omega))), if_neg (Ne.symm (nI_m1 (s := k) (by omega)))]
  · rcases onC_rng (C := C) q with z | ⟨j, hj, z⟩
    · exact absurd z c2
    · rw [z, i32_z, cl_nI (by omega)]
      refine ⟨in_nI (by omega), fin _ (fun r hr => su_q hr) (fun k hk => su_k (by omega)) (fun k hk => ?_)⟩
      rw [pl k hk, c1, z, if_neg (Ne.symm (nI_m1 (s := k) (by omega)))]
      by_cases e : k = j
      · subst e; rw [su_s, if_pos rfl]
      · rw [su_k e, if_neg (fun y => e (nI_inj (by omega) (by omega) y.symm))]
  · rcases onC_rng (C := C) p with z | ⟨i, hi, z⟩
    · exact absurd z c1
    · rw [z, i32_z, cl_nI (by omega)]
      refine ⟨in_nI (by omega), fun c2 => ?_, fun c2 => ?_⟩
      · refine fin _ (fun r hr => su_q hr) (fun k hk => su_k (by omega)) (fun k hk => ?_)
        rw [pl k hk, c2, z, if_neg (Ne.symm (nI_m1 (s := k) (by omega)))]
        by_cases e : k = i
        · subst e; rw [su_s, if_pos rfl]
        · rw [su_k e, if_neg (fun y => e (nI_inj (by omega) (by omega) y.symm))]
      · rcases onC_rng (C := C) q with y | ⟨j, hj, y⟩
        · exact absurd y c2
        · rw [y, i32_z, cl_nI (by omega)]
          refine ⟨in_nI (by omega), fin _ (fun r hr => by rw [su_q hr, su_q hr]) (fun k hk => by rw [su_k (by omega), su_k (by omega)]) (fun k hk => ?_)⟩
          rw [pl k hk, y, z]
          by_cases e : k = j
          · subst e; rw [su_s, if_pos rfl]
          · rw [su_k e, if_neg (fun x => e (nI_inj (by omega) (by omega) x.symm))]
            by_cases e2 : k = i
            · subst e2; rw [su_s, if_pos rfl]
            · rw [su_k e2, if_neg (fun x => e2 (nI_inj (by omega) (by omega) x.symm))]
/-! copies -/
theorem cp_o {σ : St} {q q1 r : Nat} (h : r ≠ q1) : cp σ q q1 r = σ r := by unfold cp; exact sa_ne h
theorem cp_in {σ : St} {q q1 k : Nat} (h : k < 9) : cp σ q q1 q1 k = σ q k := by
  unfold cp; rw [sa_self, pk_cpy_in (by omega) (by omega)]; simp
theorem s_copy {σ : St} {g g2 : Nat} (hg : isX3 g) (hg2 : isX3 g2) (hne : g ≠ g2) {P : St → Prop}
    (h : ∀ σ', (∀ q, (q < g ∨ g + 8 ≤ q) → σ' q = σ q) → (∀ C, COk C → GX σ g2 C → GX σ' g C) → P σ') : w_X3_copy g g2 σ P := by
  have a1 := hg.2
  have a2 := hg2.2
  have step : ∀ m τ, m < 7 → ((∀ q, (q < g + 1 ∨ g + 1 + m ≤ q) → τ q = σ q) ∧ ∀ i k, 1 ≤ i → i ≤ m → k < 9 → τ (g + i) k = σ (g2 + i) k) → ((∀ q, (q < g + 1 ∨ g + 1 + (m + 1) ≤ q) → cp τ (g2 + (m + 1)) (g + (m + 1)) q = σ q) ∧ ∀ i k, 1 ≤ i → i ≤ m + 1 → k < 9 → cp τ (g2 + (m + 1)) (g + (m + 1)) (g + i) k = σ (g2 + i) k) := by
    intro m τ hm hτ
    refine ⟨fun q hq => ?_, fun i k b1 b2 hk => ?_⟩
    · rw [cp_o (by omega)]; exact hτ.1 q (by omega)
    · by_cases e : i = m + 1
      · subst e
        rw [cp_in hk, hτ.1 _ (by omega)]
      · rw [cp_o (by omega)]; exact hτ.2 i k b1 (by omega) hk
  have i0 : (∀ q, (q < g + 1 ∨ g + 1 + 0 ≤ q) → σ q = σ q) ∧ ∀ i k, 1 ≤ i → i ≤ 0 → k < 9 → σ (g + i) k = σ (g2 + i) k := ⟨fun _ _ => rfl, fun i k b1 b2 => by omega⟩
  have i4 := step 3 _ (by omega) (step 2 _ (by omega) (step 1 _ (by omega) (step 0 _ (by omega) i0)))
  unfold w_X3_copy
  refine bS ?_
  generalize cp (cp (cp (cp σ (g2 + (0 + 1)) (g + (0 + 1))) (g2 + (1 + 1)) (g + (1 + 1))) (g2 + (2 + 1)) (g + (2 + 1))) (g2 + (3 + 1)) (g + (3 + 1)) = τ at i4
  have i7 := step 6 _ (by omega) (step 5 _ (by omega) (step 4 _ (by omega) i4))
  show bindS (su (cp (cp (cp τ (g2 + (4 + 1)) (g + (4 + 1))) (g2 + (5 + 1)) (g + (5 + 1))) (g2 + (6 + 1)) (g + (6 + 1))) g 7 ((cp (cp (cp τ (g2 + (4 + 1)) (g + (4 + 1))) (g2 + (5 + 1)) (g + (5 + 1))) (g2 + (6 + 1)) (g + (6 + 1))) g2 7)) _
  generalize cp (cp (cp τ (g2 + (4 + 1)) (g + (4 + 1))) (g2 + (5 + 1)) (g + (5 + 1))) (g2 + (6 + 1)) (g + (6 + 1)) = τ7 at i7 ⊢
  have hne2 : g2 ≠ g := Ne.symm hne
  have hs : τ7 g2 = σ g2 := i7.1 g2 (by omega)
  have hb : ∀ k, (su (su (su (su (su τ7 g 7 (τ7 g2 7)) g 8 (τ7 g2 8)) g 9 (τ7 g2 9)) g 10 (τ7 g2 10)) g 11 (τ7 g2 11)) g k = if k = 11 then σ g2 11 else if k = 10 then σ g2 10 else if k = 9 then σ g2 9 else if k = 8 then σ g2 8 else if k = 7 then σ g2 7 else τ7 g k := by
    intro k
    rw [hs]
    simp only [su_ap, if_true]
  have ho : ∀ q, q ≠ g → (su (su (su (su (su τ7 g 7 (τ7 g2 7)) g 8 (τ7 g2 8)) g 9 (τ7 g2 9)) g 10 (τ7 g2 10)) g 11 (τ7 g2 11)) q = τ7 q := by
    intro q hq
    rw [su_q hq, su_q hq, su_q hq, su_q hq, su_q hq]
  have key : P (su (su (su (su (su τ7 g 7 (τ7 g2 7)) g 8 (τ7 g2 8)) g 9 (τ7 g2 9)) g 10 (τ7 g2 10)) g 11 (τ7 g2 11)) := by
    refine h _ (fun q hq => ?_) (fun C hC hG => ?_)
    · rw [ho q (by omega)]; exact i7.1 q (by omega)
    · obtain ⟨h1, h2, h3, h4, h5, h6, h7⟩ := hG
      have hn := hC.1
      refine ⟨by rw [hb]; exact h1, by rw [hb]; exact h2, by rw [hb]; exact h3, by rw [hb]; exact h4, by rw [hb]; exact h5, fun i k b1 b2 hk => ?_, fun p hp => ?_⟩
      · rw [ho (g + i) (by omega), i7.2 i k b1 (by omega) (by omega)]; exact h6 i k b1 b2 hk
      · rw [ho (g + 7) (by omega), i7.2 7 p (by decide) (by decide) hp]; exact h7 p hp
  refine bS (bS ?_)
  simp only [su_q hne2]
  exact key
/-! the ring of what can be undone -/
def PX (σ : St) (L : List Cty) : Prop := L.length ≤ 16 ∧ σ 166 2 = nI L.length ∧ ∃ nx : Nat, nx < 16 ∧ σ 166 1 = nI nx ∧ ∀ i C, L[i]? = some C → GX σ (32 + 8 * ((nx + 15 - i) % 16)) C
def PM (σ : St) (L : List Cty) : Prop := L.length ≤ 16 ∧ σ 185 18 = nI L.length ∧ ∀ i C, L[i]? = some C → GM σ 192 (49 * (L.length - 1 - i)) C
theorem rem_nI {a d : Nat} (ha : a < 2 ^ 31) (h0 : 0 < d) (hd : d < 2 ^ 31) : nI a - nI a / nI d * nI d = nI (a % d) := pk_rem ha h0 hd
theorem s_push {σ : St} {C : Cty} {L : List Cty} (hC : COk C) (hL : ∀ D ∈ L, COk D) (hG : GX σ 0 C) (hP : PX σ L) {P : St → Prop}
    (h : ∀ σ', (∀ q, (q < 32 ∨ 160 ≤ q) → q ≠ 166 → σ' q = σ q) → PX σ' (C :: L.take 15) → P σ') : w_X4_push 0 σ P := by
  obtain ⟨hl, h2, nx, hnx, h1, hr⟩ := hP
  unfold w_X4_push
  rw [h1, cl_nI (by omega)]
  refine ⟨in_nI hnx, s_copy (gX3_ring hnx) ⟨by decide, by decide⟩ (by omega) (fun τ ho hc => bS (bS ?_))⟩
  have e1 : τ 166 1 = nI nx := by rw [ho 166 (by omega)]; exact h1
  have e2 : τ 166 2 = nI L.length := by rw [ho 166 (by omega)]; exact h2
  have m1 : nI nx + 1 - (nI nx + 1) / 16 * 16 = nI ((nx + 1) % 16) := by rw [nI_1]; exact rem_nI (d := 16) (by omega) (by decide) (by decide)
  rw [e1, m1]
  have e3 : su τ 166 1 (nI ((nx + 1) % 16)) 166 2 = nI L.length := by rw [su_k (by decide)]; exact e2
  rw [e3, nI_1]
  have hlen : (if nI (L.length + 1) < 16 then nI (L.length + 1) else 16) = nI (C :: L.take 15).length := by
    rw [List.length_cons, List.length_take]
    by_cases c : L.length + 1 < 16
    · rw [if_pos (show nI (L.length + 1) < (16 : Int32) from nI_lt (b := 16) c (by decide))]; congr 1; omega
    · rw [if_neg (show ¬ nI (L.length + 1) < (16 : Int32) from nI_nlt (a := L.length + 1) (b := 16) (by omega) (by omega)), show min 15 L.length + 1 = 16 by omega]; rfl
  rw [hlen]
  refine h _ (fun q hq hq2 => ?_) ⟨by rw [List.length_cons, List.length_take]; omega, su_s, (nx + 1) % 16, Nat.mod_lt _ (by decide), by rw [su_k (by decide)]; exact su_s, fun i D hD => ?_⟩
  · rw [su_q hq2, su_q hq2]; exact ho q (by omega)
  · cases i with
    | zero =>
      rw [List.getElem?_cons_zero] at hD
      cases hD
      have e : ((nx + 1) % 16 + 15 - 0) % 16 = nx := by omega
      rw [e]
      exact (hc C hC hG).of (fun q b1 b2 => by rw [su_q (by omega), su_q (by omega)])
    | succ i =>
      rw [List.getElem?_cons_succ, List.getElem?_take] at hD
      split at hD
      · rename_i hi
        have hi2 : i < L.length := (List.getElem?_eq_some_iff.mp hD).1
        have e : ((nx + 1) % 16 + 15 - (i + 1)) % 16 = (nx + 15 - i) % 16 := by omega
        have ne : (nx + 15 - i) % 16 ≠ nx := by omega
        rw [e]
        exact (hr i D hD).of (fun q b1 b2 => by rw [su_q (by omega), su_q (by omega), ho q (by omega)])
      · cases hD
theorem s_restore {σ : St} {C : Cty} {L : List Cty} (hC : COk C) (hL : ∀ D ∈ L, COk D) (hP : PX σ (C :: L)) {P : St → Prop}
    (h : ∀ σ', (∀ q, 8 ≤ q → q ≠ 166 → σ' q = σ q) → GX σ' 0 C → PX σ' L → P σ') : w_X4_restore 0 σ P := by
  obtain ⟨hl, h2, nx, hnx, h1, hr⟩ := hP
  rw [List.length_cons] at hl h2
  unfold w_X4_restore
  rw [h1, h2]
  refine ⟨fun _ => bS ?_, fun c => absurd c (nI_ne0 (by omega) (by omega))⟩
  have m1 : nI nx + 16 - 1 - (nI nx + 16 - 1) / 16 * 16 = nI ((nx + 15) % 16) := by
    have : nI nx + 16 - 1 = nI (nx + 15) := by
      show nI nx + nI 16 - 1 = _
      rw [nI_add]; exact nI_pred (nx + 15)
    rw [this]; exact rem_nI (d := 16) (by omega) (by decide) (by decide)
  rw [m1]
  have e3 : su σ 166 1 (nI ((nx + 15) % 16)) 166 2 = nI (L.length + 1) := by rw [su_k (by decide)]; exact h2
  rw [e3, nI_pred]
  have e4 : su (su σ 166 1 (nI ((nx + 15) % 16))) 166 2 (nI L.length) 166 1 = nI ((nx + 15) % 16) := by rw [su_k (by decide)]; exact su_s
  rw [e4, cl_nI (by omega)]
  have hlt : (nx + 15) % 16 < 16 := Nat.mod_lt _ (by decide)
  refine ⟨in_nI hlt, s_copy ⟨by decide, by decide⟩ (gX3_ring hlt) (by omega) (fun τ ho hc => h τ (fun q b1 b2 => ?_) ?_ ⟨by omega, ?_, (nx + 15) % 16, hlt, ?_, fun i D hD => ?_⟩)⟩
  · rw [ho q (by omega), su_q b2, su_q b2]
  · have hg := hr 0 C rfl
    rw [show (nx + 15 - 0) % 16 = (nx + 15) % 16 by omega] at hg
    exact hc C hC (hg.of (fun q b1 b2 => by rw [su_q (by omega), su_q (by omega)]))
  · rw [ho 166 (by omega)]; exact su_s
  · rw [ho 166 (by omega), su_k (by decide)]; exact su_s
  · have hi2 : i < L.length := (List.getElem?_eq_some_iff.mp hD).1
    have hg := hr (i + 1) D (by rw [List.getElem?_cons_succ]; exact hD)
    have e : (nx + 15 - (i + 1)) % 16 = ((nx + 15) % 16 + 15 - i) % 16 := by omega
    rw [e] at hg
    exact hg.of (fun q b1 b2 => by rw [ho q (by omega), su_q (by omega), su_q (by omega)])
