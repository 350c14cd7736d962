/-! ===== what is counted over all balls ===== -/
def hmN (F : Nat → Int32) (p : Int32) : Nat → Nat → Nat
  | 0, _ => 0
  | m + 1, k => (if F k = p then 1 else 0) + hmN F p m (k + 1)
theorem hmN_le (F : Nat → Int32) (p : Int32) : ∀ m k, hmN F p m k ≤ m := by
  intro m
  induction m with
  | zero => intro k; exact Nat.le_refl _
  | succ m ih => intro k; unfold hmN; have := ih (k + 1); split <;> omega
def fsN (F : Nat → Int32) (p : Int32) : Nat → Nat → Int32
  | 0, _ => -1
  | m + 1, k => if F k = p then nbF k else fsN F p m (k + 1)
theorem s_howMany {σ : St} {F : Nat → Int32} (hF : ∀ b, b < 600 → σ 177 b = F b) {p : Int32} {P : Int32 → St → Prop} (h : P (nI (hmN F p 600 0)) σ) : w_X6_howMany p σ P := by
  have loop : ∀ m k c, k + m = 600 → P (nI (c + hmN F p m k)) σ → w_X6_howMany_b4 p P (m + 1) (nI c) (nI k) σ := by
    intro m
    induction m with
    | zero =>
      intro k c hk h
      have : k = 600 := by omega
      subst this
      exact ⟨fun _ => h, fun z => absurd (by decide) z⟩
    | succ m ih =>
      intro k c hk h
      unfold w_X6_howMany_b4 w_X6_howMany_b24
      rw [cl_nI (by omega), nI_1, nI_1, hF k (by omega)]
      unfold hmN at h
      refine ⟨fun z => absurd z (nI_ge (a := k) (b := 600) (by omega) (by decide)), fun _ => ⟨in_nI (by omega), fun e => ?_, fun e => ?_⟩⟩
      · rw [if_neg e, Nat.zero_add] at h
        exact ih (k + 1) c (by omega) h
      · rw [if_pos e, ← Nat.add_assoc] at h
        exact ih (k + 1) (c + 1) (by omega) h
  exact ⟨601, loop 600 0 0 rfl (by rw [Nat.zero_add]; exact h)⟩
theorem s_firstOf {σ : St} {F : Nat → Int32} (hF : ∀ b, b < 600 → σ 177 b = F b) {p : Int32} {P : Int32 → St → Prop} (h : P (fsN F p 600 0) σ) : w_X6_firstOf p σ (fun r12 σ11 => (w_X7_numberOf r12 σ11 (fun r14 σ13 => P r14 σ13))) := by
  have loop : ∀ m k, k + m = 600 → P (fsN F p m k) σ → w_X6_firstOf_b2 p (fun r12 σ11 => (w_X7_numberOf r12 σ11 (fun r14 σ13 => P r14 σ13))) (m + 1) (nI k) σ := by
    intro m
    induction m with
    | zero =>
      intro k hk h
      have : k = 600 := by omega
      subst this
      exact ⟨fun _ => s_xnum0 h, fun z => absurd (by decide) z⟩
    | succ m ih =>
      intro k hk h
      unfold w_X6_firstOf_b2
      rw [cl_nI (by omega), nI_1, hF k (by omega)]
      unfold fsN at h
      refine ⟨fun z => absurd z (nI_ge (a := k) (b := 600) (by omega) (by decide)), fun _ => ⟨in_nI (by omega), fun e => ?_, fun e => ?_⟩⟩
      · rw [if_neg e] at h
        exact ih (k + 1) (by omega) h
      · rw [if_pos e] at h
        exact s_xnum (by omega) h
  exact ⟨601, loop 600 0 rfl h⟩
theorem s_ballsFor {σ : St} {C : Cty} (hC : COk C) (hc : ¬ cf C = -1) (hM : GM σ 189 0 C) (hG : MG σ C) {p w : Int32} {P : Int32 → St → Prop}
    (h : ∀ σ', (∀ q, q ≠ 185 → (q < 195 ∨ 201 < q) → σ' q = σ q) → (∀ k, k ≠ 26 → k ≠ 27 → k ≠ 28 → σ' 185 k = σ 185 k) → P (if w = 0 then nI (hmN (faS C (cu C)) p 600 0) else fsN (faS C (cu C)) p 600 0) σ') : w_X8_ballsFor p w σ P := by
  unfold w_X8_ballsFor
  refine s_sets0 hC hc hM hG (fun ρ r1 rS => ⟨601, ?_⟩)
  have e45 : ρ 189 45 = cu C := by rw [r1 189 (by decide) (by decide)]; exact hM.z.2.1
  have loop : ∀ m k c v τ, k + m = 600 → c ≤ k → TRY ρ τ → (∀ τ', TRY ρ τ' → P (if w = 0 then nI (c + hmN (faS C (cu C)) p m k) else if c = 0 then fsN (faS C (cu C)) p m k else v) τ') → (c = 0 → v = -1) → w_X8_ballsFor_b14 p w P (m + 1) (nI c) v (nI k) τ := by
    intro m
    induction m with
    | zero =>
      intro k c v τ hk hck hT h hv
      have : k = 600 := by omega
      subst this
      unfold w_X8_ballsFor_b14
      have h2 := h τ hT
      refine ⟨fun _ => ⟨fun e => ?_, fun e => ?_⟩, fun z => absurd (by decide) z⟩
      · rw [if_neg e] at h2
        by_cases c0 : c = 0
        · rw [if_pos c0] at h2; rw [hv c0]; exact h2
        · rw [if_neg c0] at h2; exact h2
      · rw [if_pos e] at h2; exact h2
    | succ m ih =>
      intro k c v τ hk hck hT h hv
      unfold w_X8_ballsFor_b14 w_X8_ballsFor_b53 w_X8_ballsFor_b58
      rw [hT.cu, e45]
      refine ⟨fun z => absurd z (nI_ge (a := k) (b := 600) (by omega) (by decide)), fun _ => s_goesBy hC hc rS hT (by omega) (fun τ2 hT2 => ?_)⟩
      rw [nI_1, nI_1]
      refine ⟨fun e => ?_, fun e => ⟨fun c0 => ?_, fun c0 => ?_⟩⟩
      · refine ih (k + 1) c v τ2 (by omega) (by omega) hT2 (fun τ3 hT3 => ?_) hv
        have h2 := h τ3 hT3
        unfold hmN fsN at h2
        rw [if_neg e, if_neg e, Nat.zero_add] at h2
        exact h2
      · have c0' : ¬ c = 0 := fun z => c0 (by rw [z]; rfl)
        refine ih (k + 1) (c + 1) v τ2 (by omega) (by omega) hT2 (fun τ3 hT3 => ?_) (fun z => absurd z (by omega))
        have h2 := h τ3 hT3
        unfold hmN at h2
        rw [if_pos e, if_neg c0', ← Nat.add_assoc] at h2
        rw [if_neg (show ¬ c + 1 = 0 by omega)]
        exact h2
      · have c0' : c = 0 := nI_inj (b := 0) (by omega) (by decide) c0
        refine s_mnum (by omega) (ih (k + 1) (c + 1) _ τ2 (by omega) (by omega) hT2 (fun τ3 hT3 => ?_) (fun z => absurd z (by omega)))
        have h2 := h τ3 hT3
        unfold hmN fsN at h2
        rw [if_pos e, if_pos e, if_pos c0', ← Nat.add_assoc] at h2
        rw [if_neg (show ¬ c + 1 = 0 by omega)]
        exact h2
  refine loop 600 0 0 (-1) ρ rfl (Nat.le_refl _) (TRY.rf ρ) (fun τ hT => ?_) (fun _ => rfl)
  rw [Nat.zero_add, if_pos rfl]
  exact h τ (fun q b1 b2 => by rw [hT.1 q b1 (by omega), r1 q (by omega) (by omega)]) (fun k b1 b2 b3 => by rw [hT.2 k b1 b2 b3, r1 185 (by decide) (by decide)])
/-! a call that tries balls: the class fills its table, the reference tries all -/
theorem RelC.tried2 {σ τ ρ : St} {C : Cty} {L : List Cty} {I : Nat → Cty} (h : RelC σ C L I) (ht : ∀ q, (q < 171 ∨ 178 ≤ q) → τ q = σ q) (h1 : τ 176 1 = 1) (hF : ∀ b, b < 600 → τ 177 b = faS C (cu C) b) (hr : ∀ q, q ≠ 185 → (q < 195 ∨ 201 < q) → ρ q = su τ 185 0 0 q) (hk : ∀ k, k ≠ 26 → k ≠ 27 → k ≠ 28 → ρ 185 k = su τ 185 0 0 185 k) : Rel ρ := by
  have hz : ∀ q, q ≠ 185 → (q < 195 ∨ 201 < q) → ρ q = τ q := fun q b1 b2 => by rw [hr q b1 b2, su_q b1]
  refine ⟨C, L, I, h.tried (fun q hq hs => ?_) (fun k b1 b2 b3 b4 => ?_) ?_ ?_⟩
  · have hs' : ¬ ((8 ≤ q ∧ q < 16) ∨ (171 ≤ q ∧ q < 182) ∨ q = 185 ∨ (195 ≤ q ∧ q < 205)) := hs
    rw [hz q (by omega) (by omega), ht q (by omega)]
  · rw [hk k b2 b3 b4, su_k b1, ht 185 (by omega)]
  · exact Or.inr ⟨by rw [hz 176 (by decide) (by omega)]; exact h1, fun b hb => by rw [hz 177 (by decide) (by omega)]; exact hF b hb⟩
  · exact h.2.2.2.2.2.2.2.2.2.2.2.2.2.of (by rw [hz 178 (by decide) (by omega), ht 178 (by omega)])
theorem RelC.m0 {σ τ : St} {C : Cty} {L : List Cty} {I : Nat → Cty} (h : RelC σ C L I) (ht : ∀ q, (q < 171 ∨ 178 ≤ q) → τ q = σ q) : GM (su τ 185 0 0) 189 0 C ∧ MG (su τ 185 0 0) C ∧ ∀ k, k ≠ 0 → su τ 185 0 0 185 k = σ 185 k := by
  have hk3 : ∀ k, k ≠ 0 → su τ 185 0 0 185 k = σ 185 k := fun k b => by rw [su_k b, ht 185 (by omega)]
  exact ⟨h.2.2.1.of h.1.1 (fun k _ _ => by rw [su_q (by decide), ht 189 (by omega)]), h.2.2.2.1.of (hk3 7 (by decide)) (hk3 8 (by decide)) (hk3 9 (by decide)) (by rw [su_q (by decide), ht 188 (by omega)]), hk3⟩
theorem s_hasAll {σ : St} {C : Cty} (hC : COk C) (hG : GX σ 0 C) {x : Int32} {P : Int32 → St → Prop} (h1 : ∀ u : Nat, u < 2 ^ cn C → u < 512 → x = nI u → P 1 σ) (h0 : (¬ ∃ u : Nat, u < 2 ^ cn C ∧ x = nI u) → P 0 σ) : w_X3_hasAll 0 x σ P := by
  have hn := hC.1
  have h9 : (2 : Nat) ^ cn C ≤ 2 ^ 9 := Nat.pow_le_pow_right (by decide) hn
  have ep : ∀ k : Fin 10, ((1 : Int32) <<< (nI k.val &&& 31)) = nI (2 ^ k.val) := by decide +kernel
  unfold w_X3_hasAll
  rw [hG.2.1, ep ⟨cn C, by omega⟩]
  refine ⟨fun c => h0 ?_, fun c1 => ⟨fun c => h0 ?_, fun c2 => ?_⟩⟩
  · rintro ⟨u, hu, rfl⟩; exact nI_pos (by omega) c
  · rintro ⟨u, hu, rfl⟩; exact nI_ge hu (by show (2 : Nat) ^ cn C < 2 ^ 31; omega) c
  · obtain ⟨u, hu, e⟩ := rg (n := 2 ^ cn C) (by omega) c1 c2
    exact h1 u hu (by omega) e
theorem s_isSet {σ : St} {C : Cty} (hC : COk C) (hG : σ 185 9 = nI (cn C)) {x : Int32} {P : Int32 → St → Prop} (h1 : ∀ u : Nat, u < 2 ^ cn C → u < 512 → x = nI u → P 1 σ) (h0 : (¬ ∃ u : Nat, u < 2 ^ cn C ∧ x = nI u) → P 0 σ) : w_X8_isSet x σ P := by
  have hn := hC.1
  have h9 : (2 : Nat) ^ cn C ≤ 2 ^ 9 := Nat.pow_le_pow_right (by decide) hn
  have hp : 0 < 2 ^ cn C := Nat.pos_of_ne_zero (by simp)
  unfold w_X8_isSet
  rw [hG, full_nI ⟨cn C, by omega⟩]
  refine s_inN (lo := 0) (hi := 2 ^ cn C - 1) (by omega) (by omega) (fun j _ hj e => ⟨rfl, h1 j (by omega) (by omega) e⟩) (fun z => ⟨rfl, h0 ?_⟩)
  rintro ⟨u, hu, e⟩; exact z ⟨u, by omega, by omega, e⟩
theorem op_balls {σ : St} (h : Rel σ) (x w : Int32) : Two (w_X7_balls x w σ) (w_X8_balls x w) := by
  have h0 := h.su0 0
  obtain ⟨C, L, I, h⟩ := h
  have hG := h.2.1
  have hm9 : su σ 185 0 0 185 9 = nI (cn C) := by rw [su_k (by decide)]; exact h.2.2.2.1.1
  unfold Two w_X7_balls
  refine s_hasAll h.1 hG (fun u hu hu9 e => ⟨fun _ => ?_, fun z => absurd z (by decide)⟩) (fun hno => ⟨fun z => absurd rfl z, fun _ => ?_⟩)
  · subst e
    have out : (w < 0 ∨ 1 < w) → w_X8_balls (nI u) w σ (fun r' σ2 => (-1000000002 : Int32) = r' ∧ Rel σ2) := by
      intro c
      unfold w_X8_balls
      exact s_isSet h.1 hm9 (fun _ _ _ _ => ⟨fun _ => s_in (fun c1 c2 => absurd c (by rintro (z | z); exact c1 z; exact c2 z)) (fun _ => ⟨fun z => absurd rfl z, fun _ => ⟨rfl, h0⟩⟩), fun z => absurd z (by decide)⟩) (fun z => absurd ⟨u, hu, rfl⟩ z)
    refine ⟨fun c => out (Or.inl c), fun c1 => ⟨fun c2 => ?_, fun c => out (Or.inr (Int32.not_le.mp c))⟩⟩
    have inw : ∀ {τ : St} {Q : Int32 → St → Prop}, Q 1 τ → w_X8_in w 0 1 τ Q := fun hq => s_in (fun _ _ => hq) (fun z => absurd z (by rintro (z | z); exact c1 z; exact absurd c2 (Int32.not_le.mpr z)))
    refine s_county hG (fun c => ⟨fun _ => ?_, fun z => absurd z (by decide)⟩) (fun c => ⟨fun z => absurd rfl z, fun _ => ?_⟩)
    · refine s_fillT h.1 c hG h.2.2.2.2.2.2.2.2.2.2.2.2.1 (fun τ t1 t2 t3 => ?_)
      obtain ⟨m1, m2, m3⟩ := h.m0 t1
      have key : ∀ r : Int32, r = (if w = 0 then nI (hmN (faS C (cu C)) (nI u) 600 0) else fsN (faS C (cu C)) (nI u) 600 0) → w_X8_balls (nI u) w τ (fun r' σ2 => r = r' ∧ Rel σ2) := by
        intro r hr
        unfold w_X8_balls
        refine s_isSet h.1 m2.1 (fun _ _ _ _ => ⟨fun _ => inw ⟨fun _ => ?_, fun z => absurd z (by decide)⟩, fun z => absurd z (by decide)⟩) (fun z => absurd ⟨u, hu, rfl⟩ z)
        rw [(m2.is1 c).1]
        refine ⟨fun z => absurd z (by decide), fun _ => s_ballsFor h.1 c m1 m2 (fun ρ r1 r2 => ⟨hr, h.tried2 t1 t2 t3 r1 r2⟩)⟩
      refine ⟨fun d => s_firstOf t3 (key _ (by rw [if_neg d])), fun d => s_howMany t3 (key _ (by rw [if_pos d]))⟩
    · show w_X8_balls (nI u) w σ _
      unfold w_X8_balls
      refine s_isSet h.1 hm9 (fun _ _ _ _ => ⟨fun _ => inw ⟨fun _ => ?_, fun z => absurd z (by decide)⟩, fun z => absurd z (by decide)⟩) (fun z => absurd ⟨u, hu, rfl⟩ z)
      have e7 : su σ 185 0 0 185 7 = 0 := by rw [su_k (by decide)]; exact h.2.2.2.1.is0 c
      rw [e7]
      exact ⟨fun _ => ⟨rfl, h0⟩, fun z => absurd rfl z⟩
  · show w_X8_balls x w σ _
    unfold w_X8_balls
    exact s_isSet h.1 hm9 (fun u hu _ e => absurd ⟨u, hu, e⟩ hno) (fun _ => ⟨fun z => absurd rfl z, fun _ => ⟨rfl, h0⟩⟩)
/-! whose hand it was -/
def lnF (F : Nat → Int32) (p : Int32) : Nat → Nat → Int32 → Int32
  | 0, _, v => v
  | m + 1, k, v => lnF F p m (k + 1) (if F k = p then v ||| ((1 : Int32) <<< (nI (k / 120) &&& 31)) else v)
theorem s_linesOf {σ : St} {F : Nat → Int32} (hF : ∀ b, b < 600 → σ 177 b = F b) {p : Int32} {P : Int32 → St → Prop} (h : P (lnF F p 600 0 0) σ) : w_X6_linesOf p σ P := by
  have loop : ∀ m k v, k + m = 600 → P (lnF F p m k v) σ → w_X6_linesOf_b4 p P (m + 1) v (nI k) σ := by
    intro m
    induction m with
    | zero =>
      intro k c hk h
      have : k = 600 := by omega
      subst this
      exact ⟨fun _ => h, fun z => absurd (by decide) z⟩
    | succ m ih =>
      intro k v hk h
      unfold w_X6_linesOf_b4 w_X6_linesOf_b30
      have e1 : nI k / 120 = nI (k / 120) := pk_div (d := 120) (by omega) (by decide) (by decide)
      rw [cl_nI (by omega), nI_1, hF k (by omega), e1]
      unfold lnF at h
      refine ⟨fun z => absurd z (nI_ge (a := k) (b := 600) (by omega) (by decide)), fun _ => ⟨in_nI (by omega), fun e => ?_, fun e => bI ?_⟩⟩
      · rw [if_neg e] at h
        exact ih (k + 1) _ (by omega) h
      · rw [if_pos e] at h
        exact ih (k + 1) _ (by omega) h
  exact ⟨601, loop 600 0 0 rfl h⟩
theorem op_hand {σ : St} (h : Rel σ) (x : Int32) : Two (w_X7_hand x σ) (w_X8_hand x) := by
  have h0 := h.su0 0
  obtain ⟨C, L, I, h⟩ := h
  have hG := h.2.1
  have hm9 : su σ 185 0 0 185 9 = nI (cn C) := by rw [su_k (by decide)]; exact h.2.2.2.1.1
  unfold Two w_X7_hand
  refine s_hasAll h.1 hG (fun u hu hu9 e => ⟨fun _ => ?_, fun z => absurd z (by decide)⟩) (fun hno => ⟨fun z => absurd rfl z, fun _ => ?_⟩)
  · subst e
    refine s_county hG (fun c => ⟨fun _ => ?_, fun z => absurd z (by decide)⟩) (fun c => ⟨fun z => absurd rfl z, fun _ => ?_⟩)
    · refine s_fillT h.1 c hG h.2.2.2.2.2.2.2.2.2.2.2.2.1 (fun τ t1 t2 t3 => ?_)
      obtain ⟨m1, m2, m3⟩ := h.m0 t1
      refine s_linesOf t3 ?_
      show w_X8_hand (nI u) τ _
      unfold w_X8_hand
      refine s_isSet h.1 m2.1 (fun _ _ _ _ => ⟨fun _ => ?_, fun z => absurd z (by decide)⟩) (fun z => absurd ⟨u, hu, rfl⟩ z)
      rw [(m2.is1 c).1]
      refine ⟨fun _ => s_sets0 h.1 c m1 m2 (fun ρ r1 rS => ⟨601, ?_⟩), fun z => absurd z (by decide)⟩
      have e45 : ρ 189 45 = cu C := by rw [r1 189 (by decide) (by decide)]; exact m1.z.2.1
      have loop : ∀ m k v θ, k + m = 600 → TRY ρ θ → w_X8_hand_b36 (nI u) (fun r' σ2 => lnF (faS C (cu C)) (nI u) m k v = r' ∧ Rel σ2) (m + 1) v (nI k) θ := by
        intro m
        induction m with
        | zero =>
          intro k v θ hk hT
          have : k = 600 := by omega
          subst this
          exact ⟨fun _ => ⟨rfl, h.tried2 t1 t2 t3 (fun q b1 b2 => by rw [hT.1 q b1 (by omega), r1 q (by omega) (by omega)]) (fun k b1 b2 b3 => by rw [hT.2 k b1 b2 b3, r1 185 (by decide) (by decide)])⟩, fun z => absurd (by decide) z⟩
        | succ m ih =>
          intro k v θ hk hT
          unfold w_X8_hand_b36 w_X8_hand_b70
          have e1 : nI k / 120 = nI (k / 120) := pk_div (d := 120) (by omega) (by decide) (by decide)
          rw [hT.cu, e45, e1]
          refine ⟨fun z => absurd z (nI_ge (a := k) (b := 600) (by omega) (by decide)), fun _ => s_goesBy h.1 c rS hT (by omega) (fun θ2 hT2 => ?_)⟩
          rw [nI_1]
          unfold lnF
          refine ⟨fun e => ?_, fun e => ?_⟩
          · rw [if_neg e, Int32.or_zero]
            exact ih (k + 1) _ θ2 (by omega) hT2
          · rw [if_pos e]
            exact ih (k + 1) _ θ2 (by omega) hT2
      exact loop 600 0 0 ρ rfl (TRY.rf ρ)
    · show w_X8_hand (nI u) σ _
      unfold w_X8_hand
      refine s_isSet h.1 hm9 (fun _ _ _ _ => ⟨fun _ => ?_, fun z => absurd z (by decide)⟩) (fun z => absurd ⟨u, hu, rfl⟩ z)
      have e7 : su σ 185 0 0 185 7 = 0 := by rw [su_k (by decide)]; exact h.2.2.2.1.is0 c
      rw [e7]
      exact ⟨fun z => absurd rfl z, fun _ => ⟨rfl, h0⟩⟩
  · show w_X8_hand x σ _
    unfold w_X8_hand
    exact s_isSet h.1 hm9 (fun u hu _ e => absurd ⟨u, hu, e⟩ hno) (fun _ => ⟨fun z => absurd rfl z, fun _ => ⟨rfl, h0⟩⟩)
