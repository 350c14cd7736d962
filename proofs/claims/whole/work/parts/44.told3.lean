/-! ===== the safest of all; told; skittle ===== -/
def sfS (F : Nat → Int32) (k : Nat) : Option Nat → Option Nat
  | none => some k
  | some j => if cnN F j 600 0 ≤ cnN F k 600 0 then some j else some k
def sfN (F : Nat → Int32) (u : Int32) : Nat → Nat → Option Nat → Option Nat
  | 0, _, s => s
  | m + 1, k, s => sfN F u m (k + 1) (if bt u k then sfS F k s else s)
theorem sfS_some (F : Nat → Int32) (k j : Nat) : sfS F k (some j) = if cnN F j 600 0 ≤ cnN F k 600 0 then some j else some k := rfl
theorem smlt {k : Nat} (h : k < 9) : ∀ j, some k = some j → j < 9 := fun j e => by
  have : k = j := by simpa using e
  omega
theorem sfN_s (F : Nat → Int32) (u : Int32) (b : Nat) : ∀ a k s, sfN F u (a + b) k s = sfN F u b (k + a) (sfN F u a k s) := by
  intro a
  induction a with
  | zero => intro k s; rw [Nat.zero_add]; rfl
  | succ a ih =>
    intro k s
    rw [show a + 1 + b = (a + b) + 1 by omega, show k + (a + 1) = k + 1 + a by omega]
    exact ih (k + 1) _
theorem sfN_no (F : Nat → Int32) {u : Int32} : ∀ m k s, (∀ i, k ≤ i → i < k + m → bt u i = false) → sfN F u m k s = s := by
  intro m
  induction m with
  | zero => intro k s _; rfl
  | succ m ih =>
    intro k s h
    unfold sfN
    rw [h k (by omega) (by omega)]
    exact ih (k + 1) s (fun i h1 h2 => h i (by omega) (by omega))
theorem sfN_some (F : Nat → Int32) {u : Int32} : ∀ m k s, ((∃ j, s = some j) ∨ ∃ i, k ≤ i ∧ i < k + m ∧ bt u i = true) → ∃ j, sfN F u m k s = some j := by
  intro m
  induction m with
  | zero =>
    intro k s h
    rcases h with h | ⟨i, h1, h2, -⟩
    · exact h
    · omega
  | succ m ih =>
    intro k s h
    unfold sfN
    refine ih (k + 1) _ ?_
    have sm : ∀ t, ∃ j, sfS F k t = some j := by
      intro t
      cases t with
      | none => exact ⟨k, rfl⟩
      | some j => unfold sfS; dsimp only; split <;> exact ⟨_, rfl⟩
    cases hb : bt u k
    · rcases h with h | ⟨i, h1, h2, h3⟩
      · exact Or.inl h
      · by_cases e : i = k
        · subst e; rw [hb] at h3; exact absurd h3 (by decide)
        · exact Or.inr ⟨i, by omega, by omega, h3⟩
    · exact Or.inl (sm s)
theorem sfN_lt (F : Nat → Int32) {u : Int32} {N : Nat} : ∀ m k s, k + m ≤ N → (∀ j, s = some j → j < N) → ∀ j, sfN F u m k s = some j → j < N := by
  intro m
  induction m with
  | zero => intro k s _ h; exact h
  | succ m ih =>
    intro k s hk h
    unfold sfN
    refine ih (k + 1) _ (by omega) (fun j e => ?_)
    split at e
    · cases s with
      | none => have : k = j := by simpa [sfS] using e
                omega
      | some i =>
        unfold sfS at e
        dsimp only at e
        split at e
        · exact h j (by simpa using e)
        · have : k = j := by simpa using e
          omega
    · exact h j e
theorem bt_up {n u : Nat} (hn : n ≤ 9) (hu : u < 2 ^ n) {i : Nat} (hi : n ≤ i) : bt (nI u) i = false := by
  unfold bt
  show (BitVec.ofNat 32 u).getLsbD i = false
  rw [BitVec.getLsbD_ofNat]
  have : u.testBit i = false := Nat.testBit_lt_two_pow (Nat.lt_of_lt_of_le hu (Nat.pow_le_pow_right (by decide) hi))
  rw [this]
  simp
def ev (s : Option Nat) : Int32 := match s with | none => -1 | some j => nI j
def et (F : Nat → Int32) (z : Int32) (s : Option Nat) : Int32 := match s with | none => z | some j => nI (cnN F j 600 0)
theorem s_xsafest {σ : St} {C : Cty} (hC : COk C) (hG : GX σ 0 C) {F : Nat → Int32} (hF : ∀ b, b < 600 → σ 177 b = F b) {P : Int32 → St → Prop} (h : P (ev (sfN F (cu C) (cn C) 0 none)) σ) : w_X6_safest 0 σ P := by
  have hn := hC.1
  obtain ⟨u, hu, hu2, eu⟩ := hC.up
  have e9 : sfN F (cu C) 9 0 none = sfN F (cu C) (cn C) 0 none := by
    rw [show 9 = cn C + (9 - cn C) by omega, sfN_s, sfN_no _ _ _ _ (fun i h1 h2 => by rw [eu]; exact bt_up hn hu2 (by omega))]
  rw [← e9] at h
  have loop : ∀ m k s, k + m = 9 → (∀ j, s = some j → j < 9) → P (ev (sfN F (cu C) m k s)) σ → w_X6_safest_b9 0 P (m + 1) (ev s) (et F 601 s) (nI k) σ := by
    intro m
    induction m with
    | zero =>
      intro k s hk hs h
      have : k = 9 := by omega
      subst this
      exact ⟨fun _ => h, fun z => absurd (by decide) z⟩
    | succ m ih =>
      intro k s hk hs h
      unfold w_X6_safest_b9 w_X6_safest_b45
      rw [nI_1]
      refine ⟨fun z => absurd z (nI_ge (a := k) (b := 9) (by omega) (by decide)), fun _ => ?_⟩
      unfold w_X3_stands
      unfold sfN at h
      refine s_has hn hG.2.1 (fun j hj z => ⟨fun z => absurd z (by decide), fun _ => ?_⟩) (fun z => ⟨fun _ => ⟨fun _ => ?_, fun z => absurd rfl z⟩, fun z => absurd rfl z⟩)
      · rw [hG.2.2.1, bt_val _ (by omega)]
        cases hb : bt (cu C) k
        · rw [hb] at h
          refine ⟨fun _ => ⟨fun _ => ih (k + 1) s (by omega) hs h, fun z => absurd rfl z⟩, fun z => absurd z (by decide)⟩
        · rw [hb] at h
          refine ⟨fun z => absurd rfl z, fun _ => ⟨fun z => absurd z (by decide), fun _ => s_fallsOf hF (by omega) ?_⟩⟩
          have hl := cnN_le F k 600 0
          cases s with
          | none =>
            refine ⟨fun z => absurd z (nI_ge (a := cnN F k 600 0) (b := 601) (by omega) (by decide)), fun _ => ih (k + 1) (some k) (by omega) (smlt (by omega)) h⟩
          | some i =>
            have hl2 := cnN_le F i 600 0
            rw [if_pos rfl, sfS_some] at h
            refine ⟨fun z => ?_, fun z => ?_⟩
            · have z' : cnN F i 600 0 ≤ cnN F k 600 0 := (nI_leI (by omega) (by omega)).mp z
              rw [if_pos z'] at h
              exact ih (k + 1) (some i) (by omega) hs h
            · have z' : ¬ cnN F i 600 0 ≤ cnN F k 600 0 := fun y => z (nI_le y (by omega))
              rw [if_neg z'] at h
              exact ih (k + 1) (some k) (by omega) (smlt (by omega)) h
      · have hk' : cn C ≤ k := Nat.le_of_not_lt (fun q => z ⟨k, q, rfl⟩)
        rw [show bt (cu C) k = false by rw [eu]; exact bt_up hn hu2 hk'] at h
        exact ih (k + 1) s (by omega) hs h
  exact ⟨10, loop 9 0 none rfl (fun j e => by simp at e) h⟩
theorem s_msafest {σ : St} {C : Cty} (hC : COk C) (hc : ¬ cf C = -1) (hM : GM σ 189 0 C) (hG : MG σ C) {w : Int32} {P : Int32 → St → Prop}
    (h : ∀ σ', (∀ q, q ≠ 185 → (q < 195 ∨ 201 < q) → σ' q = σ q) → (∀ k, k ≠ 26 → k ≠ 27 → k ≠ 28 → σ' 185 k = σ 185 k) → P (if w = 0 then ev (sfN (faS C (cu C)) (cu C) (cn C) 0 none) else et (faS C (cu C)) (-1) (sfN (faS C (cu C)) (cu C) (cn C) 0 none)) σ') : w_X8_safest w σ P := by
  have hn := hC.1
  obtain ⟨u, hu, hu2, eu⟩ := hC.up
  unfold w_X8_safest
  rw [(hG.is1 hc).1, hM.z.2.1]
  refine ⟨fun z => absurd z (by decide), fun _ => ⟨fun cu0 => ?_, fun cu0 => ?_⟩⟩
  · refine s_sets0 hC hc hM hG (fun ρ r1 rS => ⟨cn C + 1, ?_⟩)
    have e45 : ρ 189 45 = cu C := by rw [r1 189 (by decide) (by decide)]; exact hM.z.2.1
    have e9 : ρ 185 9 = nI (cn C) := by rw [r1 185 (by decide) (by decide)]; exact hG.1
    have hsm : ∃ j, sfN (faS C (cu C)) (cu C) (cn C) 0 none = some j := by
      refine sfN_some _ _ _ _ (Or.inr ?_)
      by_cases e : ∃ i, i < cn C ∧ bt (cu C) i = true
      · obtain ⟨i, h1, h2⟩ := e; exact ⟨i, by omega, by omega, h2⟩
      · exfalso
        apply cu0
        apply b_ext
        intro i hi
        rw [b_0]
        by_cases c2 : i < cn C
        · cases hb : bt (cu C) i
          · rfl
          · exact absurd ⟨i, c2, hb⟩ e
        · rw [eu]; exact bt_up hn hu2 (by omega)
    generalize hF : faS C (cu C) = F at h hsm
    have loop : ∀ m k s τ, k + m = cn C → TRY ρ τ → (∃ j, sfN F (cu C) m k s = some j) → (∀ τ', TRY ρ τ' → P (if w = 0 then ev (sfN F (cu C) m k s) else et F (-1) (sfN F (cu C) m k s)) τ') → w_X8_safest_b34 w P (m + 1) (ev s) (et F 1000 s) (nI k) τ := by
      intro m
      induction m with
      | zero =>
        intro k s τ hk hT hs h
        have : k = cn C := by omega
        subst this
        unfold w_X8_safest_b34
        rw [hT.many, e9]
        have h2 := h τ hT
        obtain ⟨j, ej⟩ := hs
        have ej' : s = some j := ej
        subst ej'
        exact ⟨fun _ => ⟨fun e => by rw [if_neg e] at h2; exact h2, fun e => by rw [if_pos e] at h2; exact h2⟩, fun z => absurd (nI_le (Nat.le_refl _) (by omega)) z⟩
      | succ m ih =>
        intro k s τ hk hT hs h
        unfold w_X8_safest_b34
        rw [hT.many, e9, hT.cu, e45]
        refine ⟨fun z => absurd z (nI_ge (by omega) (by omega)), fun _ => s_mhas ?_⟩
        rw [bt_val _ (by omega)]
        unfold sfN at h hs
        cases hb : bt (cu C) k
        · rw [hb] at h hs
          unfold w_X8_safest_b135
          rw [nI_1]
          exact ⟨fun _ => ih (k + 1) s τ (by omega) hT hs h, fun z => absurd rfl z⟩
        · rw [hb] at h hs
          refine ⟨fun z => absurd z (by decide), fun _ => ⟨601, ?_⟩⟩
          have inner : ∀ n b x θ, b + n = 600 → x ≤ b → TRY ρ θ → x + cnN F k n b = cnN F k 600 0 → w_X8_safest_b64 w (w_X8_safest_b34 w P (m + 1)) P (n + 1) (ev s) (et F 1000 s) (nI k) (nI x) (nI b) θ := by
            intro n
            induction n with
            | zero =>
              intro b x θ hb2 hxb hT2 hx
              have : b = 600 := by omega
              subst this
              have hx' : x = cnN F k 600 0 := hx
              unfold w_X8_safest_b64 w_X8_safest_b121 w_X8_safest_b134 w_X8_safest_b135
              rw [nI_1]
              refine ⟨fun _ => ?_, fun z => absurd (by decide) z⟩
              cases s with
              | none =>
                have hz : ¬ (1000 : Int32) ≤ nI x := nI_ge (a := x) (b := 1000) (by omega) (by decide)
                refine ⟨fun z => absurd z hz, fun _ => ⟨fun z => absurd z hz, fun _ => ?_⟩⟩
                rw [hx']
                exact ih (k + 1) (some k) θ (by omega) hT2 hs h
              | some i =>
                have hl2 := cnN_le F i 600 0
                rw [if_pos rfl, sfS_some, ← hx'] at h hs
                refine ⟨fun z => ⟨fun _ => ?_, fun y => absurd z y⟩, fun z => ⟨fun y => absurd y z, fun _ => ?_⟩⟩
                · have z' : cnN F i 600 0 ≤ x := (nI_leI (by omega) (by omega)).mp z
                  rw [if_pos z'] at h hs
                  exact ih (k + 1) (some i) θ (by omega) hT2 hs h
                · have z' : ¬ cnN F i 600 0 ≤ x := fun y => z (nI_le y (by omega))
                  rw [if_neg z'] at h hs
                  rw [hx']
                  exact ih (k + 1) (some k) θ (by omega) hT2 hs h
            | succ n ihn =>
              intro b x θ hb2 hxb hT2 hx
              unfold w_X8_safest_b64 w_X8_safest_b100
              rw [hT2.cu, e45]
              refine ⟨fun z => absurd z (nI_ge (a := b) (b := 600) (by omega) (by decide)), fun _ => s_goesBy hC hc rS hT2 (by omega) (fun θ3 hT3 => s_mhas ?_)⟩
              have e : cnN F k (n + 1) b = (if bt (F b) k then 1 else 0) + cnN F k n (b + 1) := rfl
              rw [e, ← Nat.add_assoc] at hx
              rw [hF, bt_val _ (by omega), nI_1]
              cases hb3 : bt (F b) k
              · rw [hb3] at hx
                refine ⟨fun _ => ?_, fun z => absurd rfl z⟩
                rw [Int32.add_zero]
                exact ihn (b + 1) x θ3 (by omega) (by omega) hT3 hx
              · rw [hb3] at hx
                refine ⟨fun z => absurd z (by decide), fun _ => ?_⟩
                rw [nI_1]
                exact ihn (b + 1) (x + 1) θ3 (by omega) (by omega) hT3 hx
          exact inner 600 0 0 τ rfl (Nat.le_refl _) hT (Nat.zero_add _)
    refine loop (cn C) 0 none ρ (by omega) (TRY.rf ρ) hsm (fun τ hT => ?_)
    exact h τ (fun q b1 b2 => by rw [hT.1 q b1 (by omega), r1 q (by omega) (by omega)]) (fun k b1 b2 b3 => by rw [hT.2 k b1 b2 b3, r1 185 (by decide) (by decide)])
  · have h2 := h σ (fun _ _ _ => rfl) (fun _ _ _ _ => rfl)
    rw [sfN_no _ _ _ _ (fun i _ _ => by rw [cu0]; exact b_0 i)] at h2
    have h3 : P (if w = 0 then -1 else -1) σ := h2
    rw [ite_self] at h3
    exact h3
theorem op_told {σ : St} (h : Rel σ) (p : Int32) : Two (w_X7_told p σ) (w_X8_told p) := by
  have h0 := h.su0 0
  obtain ⟨C, L, I, h⟩ := h
  have hn := h.1.1
  have hG := h.2.1
  obtain ⟨g1, g2, g3, g4, g5, g6, g7⟩ := hG
  have hG := h.2.1
  obtain ⟨m1, m45, m46, m47⟩ := h.2.2.1.z
  obtain ⟨k9, k188, k7⟩ := h.2.2.2.1
  have hM0 : GM (su σ 185 0 0) 189 0 C := h.2.2.1.of hn (fun k _ _ => by rw [su_q (by decide)])
  have hG0 : MG (su σ 185 0 0) C := h.2.2.2.1.of (su_k (by decide)) (su_k (by decide)) (su_k (by decide)) (su_q (by decide))
  obtain ⟨tm, tm1, tm2, tm3, tm4⟩ := h.2.2.2.2.2.2.2.2.1
  obtain ⟨bm, bm1, bm2, bm3, bm4⟩ := h.2.2.2.2.2.2.2.2.2.2.2.1
  have hPX := h.2.2.2.2.2.1
  have hPM := h.2.2.2.2.2.2.1
  have k : ∀ j, j ≠ 0 → su σ 185 0 0 185 j = σ 185 j := fun j hj => su_k hj
  have q : su σ 185 0 0 189 = σ 189 := su_q (by decide)
  unfold Two w_X7_told
  refine ⟨fun c => ?_, fun c0 => ?_⟩
  · subst c
    show w_X8_told 0 σ _
    unfold w_X8_told
    refine s_in (fun _ _ => ⟨fun _ => ?_, fun z => absurd z (by decide)⟩) (fun z => absurd z (by decide))
    refine ⟨fun z => absurd z (by decide), fun _ => ?_⟩
    refine ⟨fun z => absurd (by decide) z, fun _ => ?_⟩
    rw [k 7 (by decide), k 8 (by decide)]
    rcases k7 with ⟨z1, z2⟩ | ⟨z1, z2, z3⟩
    · rw [z2]; exact ⟨fun _ => ⟨g1.trans z1, h0⟩, fun z => absurd rfl z⟩
    · rw [z2, z3]; exact ⟨fun z => absurd z (by decide), fun _ => ⟨g1, h0⟩⟩
  refine ⟨fun c => ?_, fun c1 => ?_⟩
  · subst c
    show w_X8_told 1 σ _
    unfold w_X8_told
    refine s_in (fun _ _ => ⟨fun _ => ?_, fun z => absurd z (by decide)⟩) (fun z => absurd z (by decide))
    refine ⟨fun z => absurd z (by decide), fun _ => ?_⟩
    refine ⟨fun _ => ?_, fun z => absurd z (by decide)⟩
    refine ⟨fun z => absurd (by decide) z, fun _ => ?_⟩
    exact ⟨g2.trans ((k 9 (by decide)).trans k9).symm, h0⟩
  refine ⟨fun c => ?_, fun c2 => ?_⟩
  · subst c
    show w_X8_told 2 σ _
    unfold w_X8_told
    refine s_in (fun _ _ => ⟨fun _ => ?_, fun z => absurd z (by decide)⟩) (fun z => absurd z (by decide))
    refine ⟨fun z => absurd z (by decide), fun _ => ?_⟩
    refine ⟨fun _ => ?_, fun z => absurd z (by decide)⟩
    refine ⟨fun _ => ?_, fun z => absurd z (by decide)⟩
    refine ⟨fun z => absurd (by decide) z, fun _ => ?_⟩
    exact ⟨tm2.trans ((k 2 (by decide)).trans tm3).symm, h0⟩
  refine ⟨fun c => ?_, fun c3 => ?_⟩
  · subst c
    show w_X8_told 3 σ _
    unfold w_X8_told
    refine s_in (fun _ _ => ⟨fun _ => ?_, fun z => absurd z (by decide)⟩) (fun z => absurd z (by decide))
    refine ⟨fun z => absurd z (by decide), fun _ => ?_⟩
    refine ⟨fun _ => ?_, fun z => absurd z (by decide)⟩
    refine ⟨fun _ => ?_, fun z => absurd z (by decide)⟩
    refine ⟨fun _ => ?_, fun z => absurd z (by decide)⟩
    refine ⟨fun z => absurd (by decide) z, fun _ => ?_⟩
    rw [q]; exact ⟨g3.trans m45.symm, h0⟩
  refine ⟨fun c => ?_, fun c4 => ?_⟩
  · subst c
    show w_X8_told 4 σ _
    unfold w_X8_told
    refine s_in (fun _ _ => ⟨fun _ => ?_, fun z => absurd z (by decide)⟩) (fun z => absurd z (by decide))
    refine ⟨fun z => absurd z (by decide), fun _ => ?_⟩
    refine ⟨fun _ => ?_, fun z => absurd z (by decide)⟩
    refine ⟨fun _ => ?_, fun z => absurd z (by decide)⟩
    refine ⟨fun _ => ?_, fun z => absurd z (by decide)⟩
    refine ⟨fun _ => ?_, fun z => absurd z (by decide)⟩
    refine ⟨fun z => absurd (by decide) z, fun _ => ?_⟩
    rw [q]; exact ⟨g4.trans m46.symm, h0⟩
  refine ⟨fun c => ?_, fun c5 => ?_⟩
  · subst c
    show w_X8_told 5 σ _
    unfold w_X8_told
    refine s_in (fun _ _ => ⟨fun _ => ?_, fun z => absurd z (by decide)⟩) (fun z => absurd z (by decide))
    refine ⟨fun z => absurd z (by decide), fun _ => ?_⟩
    refine ⟨fun _ => ?_, fun z => absurd z (by decide)⟩
    refine ⟨fun _ => ?_, fun z => absurd z (by decide)⟩
    refine ⟨fun _ => ?_, fun z => absurd z (by decide)⟩
    refine ⟨fun _ => ?_, fun z => absurd z (by decide)⟩
    refine ⟨fun _ => ?_, fun z => absurd z (by decide)⟩
    rw [q]; exact ⟨g5.trans m47.symm, h0⟩
  refine ⟨fun c => ?_, fun c6 => ?_⟩
  · subst c
    unfold w_X7_toldOfAllBalls
    refine s_county hG (fun c => ⟨fun _ => ?_, fun z => absurd z (by decide)⟩) (fun c => ⟨fun z => absurd rfl z, fun _ => ?_⟩)
    · refine s_fillT h.1 c hG h.2.2.2.2.2.2.2.2.2.2.2.2.1 (fun τ t1 t2 t3 => ?_)
      obtain ⟨n1, n2, n3⟩ := h.m0 t1
      have hGt : GX τ 0 C := hG.of (fun q b1 b2 => t1 q (by omega))
      refine ⟨fun _ => ?_, fun z => absurd rfl z⟩
      refine s_xworst t3 (faS_rng h.1) (s_xnum (wsN_lt (faS C (cu C)) 599 1 0 (by decide) (by decide)) ?_)
      show w_X8_told 6 τ _
      unfold w_X8_told
      refine s_in (fun _ _ => ⟨fun _ => ?_, fun z => absurd z (by decide)⟩) (fun z => absurd z (by decide))
      refine ⟨fun _ => ?_, fun z => absurd (by decide) z⟩
      refine ⟨fun z => absurd z (by decide), fun _ => ?_⟩
      refine ⟨fun z => absurd z (by decide), fun _ => ?_⟩
      exact s_mworst h.1 c n1 n2 (fun ρ r1 r2 => ⟨(if_pos (by decide)).symm, h.tried2 t1 t2 t3 r1 r2⟩)
    · show w_X8_told 6 σ _
      unfold w_X8_told
      refine s_in (fun _ _ => ⟨fun _ => ?_, fun z => absurd z (by decide)⟩) (fun z => absurd z (by decide))
      refine ⟨fun _ => ?_, fun z => absurd (by decide) z⟩
      refine ⟨fun z => absurd z (by decide), fun _ => ?_⟩
      refine ⟨fun z => absurd z (by decide), fun _ => ?_⟩
      unfold w_X8_worst
      rw [hG0.is0 c]
      exact ⟨fun z => absurd rfl z, fun _ => ⟨rfl, h0⟩⟩
  refine ⟨fun c => ?_, fun c7 => ?_⟩
  · subst c
    unfold w_X7_toldOfAllBalls
    refine s_county hG (fun c => ⟨fun _ => ?_, fun z => absurd z (by decide)⟩) (fun c => ⟨fun z => absurd rfl z, fun _ => ?_⟩)
    · refine s_fillT h.1 c hG h.2.2.2.2.2.2.2.2.2.2.2.2.1 (fun τ t1 t2 t3 => ?_)
      obtain ⟨n1, n2, n3⟩ := h.m0 t1
      have hGt : GX τ 0 C := hG.of (fun q b1 b2 => t1 q (by omega))
      refine ⟨fun z => absurd z (by decide), fun _ => ?_⟩
      refine ⟨fun _ => ?_, fun z => absurd rfl z⟩
      refine s_xworst t3 (faS_rng h.1) ?_
      have hw := wsN_lt (faS C (cu C)) 599 1 0 (by decide) (by decide)
      unfold w_X6_fallenBy
      refine ⟨fun z => absurd z (nI_pos (by omega)), fun _ => ⟨fun _ => ⟨in_nI hw, ?_⟩, fun z => absurd (nI_lt (b := 600) hw (by decide)) z⟩⟩
      rw [cl_nI (by omega), t3 _ hw]
      refine s_bitcF (faS_rng h.1 _) ?_
      show w_X8_told 7 τ _
      unfold w_X8_told
      refine s_in (fun _ _ => ⟨fun _ => ?_, fun z => absurd z (by decide)⟩) (fun z => absurd z (by decide))
      refine ⟨fun _ => ?_, fun z => absurd (by decide) z⟩
      refine ⟨fun z => absurd z (by decide), fun _ => ?_⟩
      refine ⟨fun z => absurd z (by decide), fun _ => ?_⟩
      exact s_mworst h.1 c n1 n2 (fun ρ r1 r2 => ⟨(if_neg (by decide)).symm, h.tried2 t1 t2 t3 r1 r2⟩)
    · show w_X8_told 7 σ _
      unfold w_X8_told
      refine s_in (fun _ _ => ⟨fun _ => ?_, fun z => absurd z (by decide)⟩) (fun z => absurd z (by decide))
      refine ⟨fun _ => ?_, fun z => absurd (by decide) z⟩
      refine ⟨fun z => absurd z (by decide), fun _ => ?_⟩
      refine ⟨fun z => absurd z (by decide), fun _ => ?_⟩
      unfold w_X8_worst
      rw [hG0.is0 c]
      exact ⟨fun z => absurd rfl z, fun _ => ⟨rfl, h0⟩⟩
  refine ⟨fun c => ?_, fun c8 => ?_⟩
  · subst c
    unfold w_X7_toldOfAllBalls
    refine s_county hG (fun c => ⟨fun _ => ?_, fun z => absurd z (by decide)⟩) (fun c => ⟨fun z => absurd rfl z, fun _ => ?_⟩)
    · refine s_fillT h.1 c hG h.2.2.2.2.2.2.2.2.2.2.2.2.1 (fun τ t1 t2 t3 => ?_)
      obtain ⟨n1, n2, n3⟩ := h.m0 t1
      have hGt : GX τ 0 C := hG.of (fun q b1 b2 => t1 q (by omega))
      refine ⟨fun z => absurd z (by decide), fun _ => ?_⟩
      refine ⟨fun z => absurd z (by decide), fun _ => ?_⟩
      refine ⟨fun _ => ?_, fun z => absurd rfl z⟩
      refine s_xsafest h.1 hGt t3 ?_
      show w_X8_told 8 τ _
      unfold w_X8_told
      refine s_in (fun _ _ => ⟨fun _ => ?_, fun z => absurd z (by decide)⟩) (fun z => absurd z (by decide))
      refine ⟨fun _ => ?_, fun z => absurd (by decide) z⟩
      refine ⟨fun z => absurd z (by decide), fun _ => ?_⟩
      refine ⟨fun _ => ?_, fun z => absurd (by decide) z⟩
      exact s_msafest h.1 c n1 n2 (fun ρ r1 r2 => ⟨(if_pos (by decide)).symm, h.tried2 t1 t2 t3 r1 r2⟩)
    · show w_X8_told 8 σ _
      unfold w_X8_told
      refine s_in (fun _ _ => ⟨fun _ => ?_, fun z => absurd z (by decide)⟩) (fun z => absurd z (by decide))
      refine ⟨fun _ => ?_, fun z => absurd (by decide) z⟩
      refine ⟨fun z => absurd z (by decide), fun _ => ?_⟩
      refine ⟨fun _ => ?_, fun z => absurd (by decide) z⟩
      unfold w_X8_safest
      rw [hG0.is0 c]
      exact ⟨fun _ => ⟨rfl, h0⟩, fun z => absurd rfl z⟩
  refine ⟨fun c => ?_, fun c9 => ?_⟩
  · subst c
    unfold w_X7_toldOfAllBalls
    refine s_county hG (fun c => ⟨fun _ => ?_, fun z => absurd z (by decide)⟩) (fun c => ⟨fun z => absurd rfl z, fun _ => ?_⟩)
    · refine s_fillT h.1 c hG h.2.2.2.2.2.2.2.2.2.2.2.2.1 (fun τ t1 t2 t3 => ?_)
      obtain ⟨n1, n2, n3⟩ := h.m0 t1
      have hGt : GX τ 0 C := hG.of (fun q b1 b2 => t1 q (by omega))
      refine ⟨fun z => absurd z (by decide), fun _ => ?_⟩
      refine ⟨fun z => absurd z (by decide), fun _ => ?_⟩
      refine ⟨fun z => absurd z (by decide), fun _ => ?_⟩
      refine ⟨fun _ => ?_, fun z => absurd rfl z⟩
      refine s_xsafest h.1 hGt t3 ?_
      have fin : w_X8_told 9 τ (fun r' σ2 => et (faS C (cu C)) (-1) (sfN (faS C (cu C)) (cu C) (cn C) 0 none) = r' ∧ Rel σ2) := by
        unfold w_X8_told
        refine s_in (fun _ _ => ⟨fun _ => ?_, fun z => absurd z (by decide)⟩) (fun z => absurd z (by decide))
        refine ⟨fun _ => ?_, fun z => absurd (by decide) z⟩
        refine ⟨fun z => absurd z (by decide), fun _ => ?_⟩
        refine ⟨fun _ => ?_, fun z => absurd (by decide) z⟩
        exact s_msafest h.1 c n1 n2 (fun ρ r1 r2 => ⟨(if_neg (by decide)).symm, h.tried2 t1 t2 t3 r1 r2⟩)
      cases hs : sfN (faS C (cu C)) (cu C) (cn C) 0 none with
      | none => rw [hs] at fin; exact ⟨fun z => absurd rfl z, fun _ => fin⟩
      | some j =>
        have hj : j < 9 := sfN_lt (faS C (cu C)) (u := cu C) (N := 9) (cn C) 0 none (by omega) (fun j e => by simp at e) j hs
        rw [hs] at fin
        exact s_fallsOf t3 (by omega) fin
    · show w_X8_told 9 σ _
      unfold w_X8_told
      refine s_in (fun _ _ => ⟨fun _ => ?_, fun z => absurd z (by decide)⟩) (fun z => absurd z (by decide))
      refine ⟨fun _ => ?_, fun z => absurd (by decide) z⟩
      refine ⟨fun z => absurd z (by decide), fun _ => ?_⟩
      refine ⟨fun _ => ?_, fun z => absurd (by decide) z⟩
      unfold w_X8_safest
      rw [hG0.is0 c]
      exact ⟨fun _ => ⟨rfl, h0⟩, fun z => absurd rfl z⟩
  refine ⟨fun c => ?_, fun c10 => ?_⟩
  · subst c
    unfold w_X7_toldOfAllBalls
    refine s_county hG (fun c => ⟨fun _ => ?_, fun z => absurd z (by decide)⟩) (fun c => ⟨fun z => absurd rfl z, fun _ => ?_⟩)
    · refine s_fillT h.1 c hG h.2.2.2.2.2.2.2.2.2.2.2.2.1 (fun τ t1 t2 t3 => ?_)
      obtain ⟨n1, n2, n3⟩ := h.m0 t1
      have hGt : GX τ 0 C := hG.of (fun q b1 b2 => t1 q (by omega))
      refine ⟨fun z => absurd z (by decide), fun _ => ?_⟩
      refine ⟨fun z => absurd z (by decide), fun _ => ?_⟩
      refine ⟨fun z => absurd z (by decide), fun _ => ?_⟩
      refine ⟨fun z => absurd z (by decide), fun _ => ?_⟩
      refine s_howMany t3 ?_
      show w_X8_told 10 τ _
      unfold w_X8_told
      refine s_in (fun _ _ => ⟨fun _ => ?_, fun z => absurd z (by decide)⟩) (fun z => absurd z (by decide))
      refine ⟨fun _ => ?_, fun z => absurd (by decide) z⟩
      refine ⟨fun _ => ?_, fun z => absurd (by decide) z⟩
      refine ⟨fun z => absurd (by decide) z, fun _ => ?_⟩
      unfold w_X8_firm
      rw [(n2.is1 c).1]
      exact ⟨fun _ => s_ballsFor h.1 c n1 n2 (fun ρ r1 r2 => ⟨(if_pos rfl).symm, h.tried2 t1 t2 t3 r1 r2⟩), fun z => absurd z (by decide)⟩
    · show w_X8_told 10 σ _
      unfold w_X8_told
      refine s_in (fun _ _ => ⟨fun _ => ?_, fun z => absurd z (by decide)⟩) (fun z => absurd z (by decide))
      refine ⟨fun _ => ?_, fun z => absurd (by decide) z⟩
      refine ⟨fun _ => ?_, fun z => absurd (by decide) z⟩
      refine ⟨fun z => absurd (by decide) z, fun _ => ?_⟩
      unfold w_X8_firm
      rw [hG0.is0 c]
      exact ⟨fun z => absurd rfl z, fun _ => ⟨rfl, h0⟩⟩
  refine ⟨fun c => ?_, fun c11 => ?_⟩
  · subst c
    refine s_xtalk h.1 hG ?_
    show w_X8_told 11 σ _
    unfold w_X8_told
    refine s_in (fun _ _ => ⟨fun _ => ?_, fun z => absurd z (by decide)⟩) (fun z => absurd z (by decide))
    refine ⟨fun _ => ?_, fun z => absurd (by decide) z⟩
    refine ⟨fun _ => ?_, fun z => absurd (by decide) z⟩
    refine ⟨fun _ => ?_, fun z => absurd z (by decide)⟩
    refine ⟨fun z => absurd (by decide) z, fun _ => ?_⟩
    exact s_mtalk h.1 hM0 hG0 ⟨by rw [tri_AB h.1], h0⟩
  refine ⟨fun c => ?_, fun c12 => ?_⟩
  · subst c
    show w_X8_told 12 σ _
    unfold w_X8_told
    refine s_in (fun _ _ => ⟨fun _ => ?_, fun z => absurd z (by decide)⟩) (fun z => absurd z (by decide))
    refine ⟨fun _ => ?_, fun z => absurd (by decide) z⟩
    refine ⟨fun _ => ?_, fun z => absurd (by decide) z⟩
    refine ⟨fun _ => ?_, fun z => absurd z (by decide)⟩
    refine ⟨fun _ => ?_, fun z => absurd z (by decide)⟩
    refine ⟨fun z => absurd (by decide) z, fun _ => ?_⟩
    exact ⟨bm2.trans ((k 21 (by decide)).trans bm3).symm, h0⟩
  refine ⟨fun c => ?_, fun c13 => ?_⟩
  · subst c
    show w_X8_told 13 σ _
    unfold w_X8_told
    refine s_in (fun _ _ => ⟨fun _ => ?_, fun z => absurd z (by decide)⟩) (fun z => absurd z (by decide))
    refine ⟨fun _ => ?_, fun z => absurd (by decide) z⟩
    refine ⟨fun _ => ?_, fun z => absurd (by decide) z⟩
    refine ⟨fun _ => ?_, fun z => absurd z (by decide)⟩
    refine ⟨fun _ => ?_, fun z => absurd z (by decide)⟩
    refine ⟨fun _ => ?_, fun z => absurd z (by decide)⟩
    exact ⟨hPX.2.1.trans ((k 18 (by decide)).trans hPM.2.1).symm, h0⟩
  show w_X8_told p σ _
  unfold w_X8_told
  refine s_inN (lo := 0) (hi := 13) (by decide) (by decide) (fun j _ hj e => ?_) (fun _ => ⟨fun z => absurd rfl z, fun _ => ⟨rfl, h0⟩⟩)
  exfalso
  rcases (show j = 0 ∨ j = 1 ∨ j = 2 ∨ j = 3 ∨ j = 4 ∨ j = 5 ∨ j = 6 ∨ j = 7 ∨ j = 8 ∨ j = 9 ∨ j = 10 ∨ j = 11 ∨ j = 12 ∨ j = 13 by omega) with z | z | z | z | z | z | z | z | z | z | z | z | z | z
  · rw [z] at e; exact c0 e
  · rw [z] at e; exact c1 e
  · rw [z] at e; exact c2 e
  · rw [z] at e; exact c3 e
  · rw [z] at e; exact c4 e
  · rw [z] at e; exact c5 e
  · rw [z] at e; exact c6 e
  · rw [z] at e; exact c7 e
  · rw [z] at e; exact c8 e
  · rw [z] at e; exact c9 e
  · rw [z] at e; exact c10 e
  · rw [z] at e; exact c11 e
  · rw [z] at e; exact c12 e
  · rw [z] at e; exact c13 e
def ftF (C : Cty) : Nat → Int32 → Int32
  | 0, v => v
  | m + 1, v => if cd C 6 v.toNatClampNeg = -1 then v else ftF C m (cd C 6 v.toNatClampNeg)
theorem s_xft {σ : St} {C : Cty} (hC : COk C) (hG : GX σ 0 C) {k : Nat} (hk : k < cn C) {P : Int32 → St → Prop} (h : P (ftF C 9 (nI k)) σ) : w_X3_firstTaker 0 (nI k) σ P := by
  have hn := hC.1
  have loop : ∀ m i k, i + m = 9 → k < cn C → P (ftF C m (nI k)) σ → ∀ q, w_X3_firstTaker_b4 0 q P (m + 1) (nI k) (nI i) σ := by
    intro m
    induction m with
    | zero =>
      intro i k hi hk h q
      have : i = 9 := by omega
      subst this
      exact ⟨fun _ => h, fun z => absurd (by decide) z⟩
    | succ m ih =>
      intro i k hi hk h q
      unfold w_X3_firstTaker_b4 w_X3_firstTaker_b28
      rw [nI_1, cl_nI (by omega)]
      refine ⟨fun z => absurd z (nI_ge (a := i) (b := 9) (by omega) (by decide)), fun _ => s_has hn hG.2.1 (fun j hj _ => ⟨fun z => absurd z (by decide), fun _ => ⟨in_nI (by omega), ?_⟩⟩) (fun z => absurd ⟨k, hk, rfl⟩ z)⟩
      unfold ftF at h
      rw [cl_nI (by omega)] at h
      have e6 : σ (0 + 6) k = cd C 6 k := hG.2.2.2.2.2.1 6 k (by decide) (by decide) hk
      rw [e6]
      refine ⟨fun c => ?_, fun c => ?_⟩
      · rw [if_neg c] at h
        rcases (hC.2.1 k hk).2.2.2.2 with z | ⟨a, ha, z⟩
        · exact absurd z c
        · rw [z] at h ⊢
          exact ih (i + 1) a (by omega) ha h q
      · rw [if_pos c] at h; exact h
  exact ⟨10, loop 9 0 k rfl hk h _⟩
theorem s_mft {σ : St} {C : Cty} (hC : COk C) (hM : GM σ 189 0 C) {k : Nat} (hk : k < cn C) {P : Int32 → St → Prop} (h : P (ftF C 9 (nI k)) σ) : w_X8_firstTaker (nI k) σ P := by
  have hn := hC.1
  have loop : ∀ m i k, i + m = 9 → k < cn C → P (ftF C m (nI k)) σ → ∀ q, w_X8_firstTaker_b4 q P (m + 1) (nI k) (nI i) σ := by
    intro m
    induction m with
    | zero =>
      intro i k hi hk h q
      have : i = 9 := by omega
      subst this
      exact ⟨fun _ => h, fun z => absurd (by decide) z⟩
    | succ m ih =>
      intro i k hi hk h q
      unfold w_X8_firstTaker_b4
      have a18 : (18 : Int32) + nI k = nI (18 + k) := nI_add 18 k
      rw [nI_1, a18, cl_nI (by omega), (hM.z.1 k hk).2.2.1]
      refine ⟨fun z => absurd z (nI_ge (a := i) (b := 9) (by omega) (by decide)), fun _ => ⟨in_nI (by omega), fun c => ?_, fun c => ⟨in_nI (by omega), ?_⟩⟩⟩
      · unfold ftF at h
        rw [cl_nI (by omega), if_pos c] at h
        exact h
      · unfold ftF at h
        rw [cl_nI (by omega), if_neg c] at h
        rcases (hC.2.1 k hk).2.2.2.2 with z | ⟨a, ha, z⟩
        · exact absurd z c
        · rw [z] at h ⊢
          exact ih (i + 1) a (by omega) ha h q
  exact ⟨10, loop 9 0 k rfl hk h _⟩
theorem op_skittle {σ : St} (h : Rel σ) (p w : Int32) : Two (w_X7_skittle p w σ) (w_X8_skittle p w) := by
  have h0 := h.su0 0
  obtain ⟨C, L, I, h⟩ := h
  have hn := h.1.1
  have hG := h.2.1
  have g6 := h.2.1.2.2.2.2.2.1
  have hM0 : GM (su σ 185 0 0) 189 0 C := h.2.2.1.of hn (fun k _ _ => by rw [su_q (by decide)])
  have hG0 : MG (su σ 185 0 0) C := h.2.2.2.1.of (su_k (by decide)) (su_k (by decide)) (su_k (by decide)) (su_q (by decide))
  have hm9 : su σ 185 0 0 185 9 = nI (cn C) := hG0.1
  unfold Two w_X7_skittle
  refine s_has hn hG.2.1 (fun j hj e => ⟨fun _ => ?_, fun z => absurd z (by decide)⟩) (fun hno => ⟨fun z => absurd rfl z, fun _ => ?_⟩)
  · subst e
    have v9 : vp_in (nI j) 9 := in_nI (by omega)
    have a9 : (9 : Int32) + nI j = nI (9 + j) := nI_add 9 j
    have a18 : (18 : Int32) + nI j = nI (18 + j) := nI_add 18 j
    have a27 : (27 : Int32) + nI j = nI (27 + j) := nI_add 27 j
    have a36 : (36 : Int32) + nI j = nI (36 + j) := nI_add 36 j
    have a0 : (0 : Int32) + nI j = nI j := i32_z _
    have cj : (nI j).toNatClampNeg = j := cl_nI (by omega)
    have c9 : (nI (9 + j)).toNatClampNeg = 9 + j := cl_nI (by omega)
    have c18 : (nI (18 + j)).toNatClampNeg = 18 + j := cl_nI (by omega)
    have c27 : (nI (27 + j)).toNatClampNeg = 27 + j := cl_nI (by omega)
    have c36 : (nI (36 + j)).toNatClampNeg = 36 + j := cl_nI (by omega)
    have gx : ∀ i, 1 ≤ i → i ≤ 6 → σ i j = cd C i j := fun i h1 h2 => by have := g6 i j h1 h2 hj; rwa [Nat.zero_add] at this
    obtain ⟨m4, m5, m6, m1, m3⟩ := hM0.z.1 j hj
    have m2 := hG0.2.1 j hj
    refine ⟨fun c => ?_, fun c0 => ?_⟩
    · subst c
      refine ⟨v9, ?_⟩
      rw [cj, gx 1 (by decide) (by decide)]
      show w_X8_skittle (nI j) 0 σ _
      unfold w_X8_skittle
      refine s_isSkittle hn hm9 (fun _ _ _ => ⟨fun _ => s_in (fun _ _ => ⟨fun _ => ?_, fun z => absurd z (by decide)⟩) (fun z => absurd z (by decide)), fun z => absurd z (by decide)⟩) (fun z => absurd ⟨j, hj, rfl⟩ z)
      refine ⟨fun z => absurd z (by decide), fun _ => ?_⟩
      refine ⟨fun z => absurd (by decide) z, fun _ => ?_⟩
      rw [a27, c27, m1]
      exact ⟨in_nI (by omega), rfl, h0⟩
    refine ⟨fun c => ?_, fun c1 => ?_⟩
    · subst c
      refine ⟨v9, ?_⟩
      rw [cj, gx 2 (by decide) (by decide)]
      show w_X8_skittle (nI j) 1 σ _
      unfold w_X8_skittle
      refine s_isSkittle hn hm9 (fun _ _ _ => ⟨fun _ => s_in (fun _ _ => ⟨fun _ => ?_, fun z => absurd z (by decide)⟩) (fun z => absurd z (by decide)), fun z => absurd z (by decide)⟩) (fun z => absurd ⟨j, hj, rfl⟩ z)
      refine ⟨fun z => absurd z (by decide), fun _ => ?_⟩
      refine ⟨fun _ => ?_, fun z => absurd z (by decide)⟩
      refine ⟨fun z => absurd (by decide) z, fun _ => ?_⟩
      rw [cj, m2]
      exact ⟨v9, rfl, h0⟩
    refine ⟨fun c => ?_, fun c2 => ?_⟩
    · subst c
      refine ⟨v9, ?_⟩
      rw [cj, gx 3 (by decide) (by decide)]
      show w_X8_skittle (nI j) 2 σ _
      unfold w_X8_skittle
      refine s_isSkittle hn hm9 (fun _ _ _ => ⟨fun _ => s_in (fun _ _ => ⟨fun _ => ?_, fun z => absurd z (by decide)⟩) (fun z => absurd z (by decide)), fun z => absurd z (by decide)⟩) (fun z => absurd ⟨j, hj, rfl⟩ z)
      refine ⟨fun z => absurd z (by decide), fun _ => ?_⟩
      refine ⟨fun _ => ?_, fun z => absurd z (by decide)⟩
      refine ⟨fun _ => ?_, fun z => absurd z (by decide)⟩
      refine ⟨fun z => absurd (by decide) z, fun _ => ?_⟩
      rw [a36, c36, m3]
      exact ⟨in_nI (by omega), rfl, h0⟩
    refine ⟨fun c => ?_, fun c3 => ?_⟩
    · subst c
      refine ⟨v9, ?_⟩
      rw [cj, gx 4 (by decide) (by decide)]
      show w_X8_skittle (nI j) 3 σ _
      unfold w_X8_skittle
      refine s_isSkittle hn hm9 (fun _ _ _ => ⟨fun _ => s_in (fun _ _ => ⟨fun _ => ?_, fun z => absurd z (by decide)⟩) (fun z => absurd z (by decide)), fun z => absurd z (by decide)⟩) (fun z => absurd ⟨j, hj, rfl⟩ z)
      refine ⟨fun z => absurd z (by decide), fun _ => ?_⟩
      refine ⟨fun _ => ?_, fun z => absurd z (by decide)⟩
      refine ⟨fun _ => ?_, fun z => absurd z (by decide)⟩
      refine ⟨fun _ => ?_, fun z => absurd z (by decide)⟩
      rw [a0, cj, m4]
      exact ⟨in_nI (by omega), rfl, h0⟩
    refine ⟨fun c => ?_, fun c4 => ?_⟩
    · subst c
      have key : ∀ r : Int32, r = (if bt (cu C) j then 1 else 0) → w_X8_skittle (nI j) 4 σ (fun r' σ2 => r = r' ∧ Rel σ2) := by
        intro r hr
        unfold w_X8_skittle
        refine s_isSkittle hn hm9 (fun _ _ _ => ⟨fun _ => s_in (fun _ _ => ⟨fun _ => ?_, fun z => absurd z (by decide)⟩) (fun z => absurd z (by decide)), fun z => absurd z (by decide)⟩) (fun z => absurd ⟨j, hj, rfl⟩ z)
        refine ⟨fun _ => ?_, fun z => absurd (by decide) z⟩
        refine ⟨fun z => absurd z (by decide), fun _ => ?_⟩
        refine ⟨fun z => absurd (by decide) z, fun _ => ?_⟩
        rw [hM0.z.2.1, bt_val _ (by omega)]
        exact ⟨hr, h0⟩
      unfold w_X3_stands
      refine s_has hn hG.2.1 (fun _ _ _ => ⟨fun z => absurd z (by decide), fun _ => ?_⟩) (fun z => absurd ⟨j, hj, rfl⟩ z)
      rw [hG.2.2.1, bt_val _ (by omega)]
      cases hb : bt (cu C) j
      · rw [hb] at key
        exact ⟨fun _ => ⟨fun _ => key _ rfl, fun z => absurd rfl z⟩, fun z => absurd z (by decide)⟩
      · rw [hb] at key
        exact ⟨fun z => absurd rfl z, fun _ => ⟨fun z => absurd z (by decide), fun _ => key _ rfl⟩⟩
    refine ⟨fun c => ?_, fun c5 => ?_⟩
    · subst c
      refine ⟨v9, ?_⟩
      rw [cj, gx 5 (by decide) (by decide)]
      show w_X8_skittle (nI j) 5 σ _
      unfold w_X8_skittle
      refine s_isSkittle hn hm9 (fun _ _ _ => ⟨fun _ => s_in (fun _ _ => ⟨fun _ => ?_, fun z => absurd z (by decide)⟩) (fun z => absurd z (by decide)), fun z => absurd z (by decide)⟩) (fun z => absurd ⟨j, hj, rfl⟩ z)
      refine ⟨fun _ => ?_, fun z => absurd (by decide) z⟩
      refine ⟨fun z => absurd z (by decide), fun _ => ?_⟩
      refine ⟨fun _ => ?_, fun z => absurd z (by decide)⟩
      refine ⟨fun z => absurd (by decide) z, fun _ => ?_⟩
      rw [a9, c9, m5]
      exact ⟨in_nI (by omega), rfl, h0⟩
    refine ⟨fun c => ?_, fun c6 => ?_⟩
    · subst c
      refine ⟨v9, ?_⟩
      rw [cj, gx 6 (by decide) (by decide)]
      show w_X8_skittle (nI j) 6 σ _
      unfold w_X8_skittle
      refine s_isSkittle hn hm9 (fun _ _ _ => ⟨fun _ => s_in (fun _ _ => ⟨fun _ => ?_, fun z => absurd z (by decide)⟩) (fun z => absurd z (by decide)), fun z => absurd z (by decide)⟩) (fun z => absurd ⟨j, hj, rfl⟩ z)
      refine ⟨fun _ => ?_, fun z => absurd (by decide) z⟩
      refine ⟨fun z => absurd z (by decide), fun _ => ?_⟩
      refine ⟨fun _ => ?_, fun z => absurd z (by decide)⟩
      refine ⟨fun _ => ?_, fun z => absurd z (by decide)⟩
      rw [a18, c18, m6]
      exact ⟨in_nI (by omega), rfl, h0⟩
    refine ⟨fun c => ?_, fun c7 => ?_⟩
    · subst c
      refine s_xft h.1 hG hj ?_
      show w_X8_skittle (nI j) 7 σ _
      unfold w_X8_skittle
      refine s_isSkittle hn hm9 (fun _ _ _ => ⟨fun _ => s_in (fun _ _ => ⟨fun _ => ?_, fun z => absurd z (by decide)⟩) (fun z => absurd z (by decide)), fun z => absurd z (by decide)⟩) (fun z => absurd ⟨j, hj, rfl⟩ z)
      refine ⟨fun _ => ?_, fun z => absurd (by decide) z⟩
      refine ⟨fun _ => ?_, fun z => absurd (by decide) z⟩
      refine ⟨fun z => absurd (by decide) z, fun _ => ?_⟩
      exact s_mft h.1 hM0 hj ⟨rfl, h0⟩
    refine ⟨fun c => ?_, fun c8 => ?_⟩
    · subst c
      refine s_bears h.1 hG (by omega) ?_
      show w_X8_skittle (nI j) 8 σ _
      unfold w_X8_skittle
      refine s_isSkittle hn hm9 (fun _ _ _ => ⟨fun _ => s_in (fun _ _ => ⟨fun _ => ?_, fun z => absurd z (by decide)⟩) (fun z => absurd z (by decide)), fun z => absurd z (by decide)⟩) (fun z => absurd ⟨j, hj, rfl⟩ z)
      refine ⟨fun _ => ?_, fun z => absurd (by decide) z⟩
      refine ⟨fun _ => ?_, fun z => absurd (by decide) z⟩
      refine ⟨fun _ => ?_, fun z => absurd z (by decide)⟩
      obtain ⟨a, ha, ea⟩ := (h.1.2.1 j hj).2.2.2.1
      rw [a0, cj, m4, ea]
      refine ⟨in_nI (by omega), s_bearsOn (by omega) ha ⟨?_, h0⟩⟩
      rw [m1, m2, m3, ← ea]
      unfold beC
      rw [if_pos hj]
    show w_X8_skittle (nI j) w σ _
    unfold w_X8_skittle
    refine s_isSkittle hn hm9 (fun _ _ _ => ⟨fun _ => ?_, fun z => absurd z (by decide)⟩) (fun z => absurd ⟨j, hj, rfl⟩ z)
    refine s_inN (lo := 0) (hi := 8) (by decide) (by decide) (fun i _ hi e => ?_) (fun _ => ⟨fun z => absurd rfl z, fun _ => ⟨rfl, h0⟩⟩)
    exfalso
    rcases (show i = 0 ∨ i = 1 ∨ i = 2 ∨ i = 3 ∨ i = 4 ∨ i = 5 ∨ i = 6 ∨ i = 7 ∨ i = 8 by omega) with z | z | z | z | z | z | z | z | z
    · rw [z] at e; exact c0 e
    · rw [z] at e; exact c1 e
    · rw [z] at e; exact c2 e
    · rw [z] at e; exact c3 e
    · rw [z] at e; exact c4 e
    · rw [z] at e; exact c5 e
    · rw [z] at e; exact c6 e
    · rw [z] at e; exact c7 e
    · rw [z] at e; exact c8 e
  · show w_X8_skittle p w σ _
    unfold w_X8_skittle
    exact s_isSkittle hn hm9 (fun i hi e => absurd ⟨i, hi, e⟩ hno) (fun _ => ⟨fun z => absurd rfl z, fun _ => ⟨rfl, h0⟩⟩)
