/-! ===== spare, the worst ball, the safest, told, skittle ===== -/
def gdB (F : Nat → Int32) (p q : Int32) (b : Nat) : Prop := F b &&& p = p ∧ F b &&& q = 0
theorem gd_m {x p q : Int32} : ((p &&& (x ^^^ -1)) = 0 ∧ (q &&& x) = 0) ↔ (x &&& p = p ∧ x &&& q = 0) := by
  constructor
  · rintro ⟨h1, h2⟩
    refine ⟨b_ext (fun i hi => ?_), by rw [Int32.and_comm]; exact h2⟩
    have := congrArg (bt · i) h1
    rw [b_and, bt_not _ hi, b_0] at this
    rw [b_and]
    cases hx : bt x i <;> cases hp : bt p i <;> rw [hx, hp] at this <;> first | rfl | exact absurd this (by decide)
  · rintro ⟨h1, h2⟩
    refine ⟨b_ext (fun i hi => ?_), by rw [Int32.and_comm]; exact h2⟩
    have := congrArg (bt · i) h1
    rw [b_and] at this
    rw [b_and, bt_not _ hi, b_0]
    cases hx : bt x i <;> cases hp : bt p i <;> rw [hx, hp] at this <;> first | rfl | exact absurd this (by decide)
def kyN (b : Nat) : Nat := (b % 40) * 15 + b / 40
def Best (F : Nat → Int32) (p q r : Int32) : Prop := (∃ b, b < 600 ∧ gdB F p q b ∧ (∀ c, c < 600 → gdB F p q c → kyN b ≤ kyN c) ∧ r = nbF b) ∨ ((∀ b, b < 600 → ¬ gdB F p q b) ∧ r = -1)
theorem Best.one {F : Nat → Int32} {p q r s : Int32} (h1 : Best F p q r) (h2 : Best F p q s) : r = s := by
  rcases h1 with ⟨b, hb, gb, mb, rfl⟩ | ⟨no, rfl⟩
  · rcases h2 with ⟨c, hc, gc, mc, rfl⟩ | ⟨no, rfl⟩
    · have e1 := mb c hc gc
      have e2 := mc b hb gb
      unfold kyN at e1 e2
      have : b = c := by omega
      rw [this]
    · exact absurd gb (no b hb)
  · rcases h2 with ⟨c, hc, gc, mc, rfl⟩ | ⟨no, rfl⟩
    · exact absurd gc (no c hc)
    · rfl
theorem s_gentlest {σ : St} {F : Nat → Int32} (hF : ∀ b, b < 600 → σ 177 b = F b) {p q : Int32} {P : Int32 → St → Prop} (h : ∀ r, Best F p q r → P r σ) : w_X6_gentlest p q σ (fun r12 σ11 => (w_X7_numberOf r12 σ11 (fun r14 σ13 => P r14 σ13))) := by
  have loop : ∀ m i, i + m = 40 → (∀ b, b < 600 → kyN b < i * 15 → ¬ gdB F p q b) → w_X6_gentlest_b2 p q (fun r12 σ11 => (w_X7_numberOf r12 σ11 (fun r14 σ13 => P r14 σ13))) (m + 1) (nI (i + 1)) σ := by
    intro m
    induction m with
    | zero =>
      intro i hi hno
      have : i = 40 := by omega
      subst this
      unfold w_X6_gentlest_b2
      exact ⟨fun _ => s_xnum0 (h _ (Or.inr ⟨fun b hb => hno b hb (by unfold kyN; omega), rfl⟩)), fun z => absurd (by decide) z⟩
    | succ m ih =>
      intro i hi hno
      unfold w_X6_gentlest_b2
      refine ⟨fun z => absurd z (nI_nlt (a := 40) (b := i + 1) (by omega) (by decide)), fun _ => ⟨16, ?_⟩⟩
      have inner : ∀ n j, j + n = 15 → (∀ b, b < 600 → kyN b < i * 15 + j → ¬ gdB F p q b) → w_X6_gentlest_b11 p q (w_X6_gentlest_b2 p q (fun r12 σ11 => (w_X7_numberOf r12 σ11 (fun r14 σ13 => P r14 σ13))) (m + 1)) (fun r12 σ11 => (w_X7_numberOf r12 σ11 (fun r14 σ13 => P r14 σ13))) (n + 1) (nI (i + 1)) (nI j) σ := by
        intro n
        induction n with
        | zero =>
          intro j hj hno
          have : j = 15 := by omega
          subst this
          unfold w_X6_gentlest_b11
          rw [nI_1]
          exact ⟨fun _ => ih (i + 1) (by omega) (fun b hb hk => hno b hb (by omega)), fun z => absurd (by decide) z⟩
        | succ n ihn =>
          intro j hj hno
          have ei : (nI j * 40 + nI (i + 1)) - 1 = nI (j * 40 + i) := by
            have : (nI j * 40 + nI (i + 1)) = nI (j * 40 + i + 1) := by
              show nI j * nI 40 + nI (i + 1) = _
              rw [pk_mul, nI_add, Nat.add_assoc]
            rw [this, nI_pred]
          unfold w_X6_gentlest_b11 w_X6_gentlest_b57
          rw [ei, cl_nI (by omega), hF (j * 40 + i) (by omega), nI_1 j]
          have ky : kyN (j * 40 + i) = i * 15 + j := by unfold kyN; omega
          have nx : ¬ gdB F p q (j * 40 + i) → w_X6_gentlest_b11 p q (w_X6_gentlest_b2 p q (fun r12 σ11 => (w_X7_numberOf r12 σ11 (fun r14 σ13 => P r14 σ13))) (m + 1)) (fun r12 σ11 => (w_X7_numberOf r12 σ11 (fun r14 σ13 => P r14 σ13))) (n + 1) (nI (i + 1)) (nI (j + 1)) σ := by
            intro hg
            refine ihn (j + 1) (by omega) (fun b hb hk => ?_)
            by_cases c : kyN b < i * 15 + j
            · exact hno b hb c
            · have : b = j * 40 + i := by unfold kyN at c hk; omega
              subst this; exact hg
          refine ⟨fun z => absurd z (nI_ge (a := j) (b := 15) (by omega) (by decide)), fun _ => ⟨in_nI (by omega), fun e => nx (fun z => e z.1), fun e => ⟨in_nI (by omega), fun e2 => nx (fun z => e2 z.2), fun e2 => ?_⟩⟩⟩
          refine s_xnum (by omega) (h _ (Or.inl ⟨_, by omega, ⟨e, e2⟩, fun c hc gc => ?_, rfl⟩))
          rw [ky]
          exact Nat.le_of_not_lt (fun z => hno c hc z gc)
      exact inner 15 0 rfl (fun b hb hk => hno b hb (by omega))
  exact ⟨41, loop 40 0 rfl (fun b hb hk => by omega)⟩
theorem op_spare {σ : St} (h : Rel σ) (x y : Int32) : Two (w_X7_spare x y σ) (w_X8_spare x y) := by
  have h0 := h.su0 0
  obtain ⟨C, L, I, h⟩ := h
  have hG := h.2.1
  have hm9 : su σ 185 0 0 185 9 = nI (cn C) := by rw [su_k (by decide)]; exact h.2.2.2.1.1
  unfold Two w_X7_spare
  refine s_hasAll h.1 hG (fun u hu hu9 e => ⟨fun z => absurd z (by decide), fun _ => ?_⟩) (fun hno => ⟨fun _ => ?_, fun z => absurd rfl z⟩)
  · subst e
    refine s_hasAll h.1 hG (fun v hv hv9 e => ⟨fun _ => ?_, fun z => absurd z (by decide)⟩) (fun hno => ⟨fun z => absurd rfl z, fun _ => ?_⟩)
    · subst e
      refine s_county hG (fun c => ⟨fun _ => ?_, fun z => absurd z (by decide)⟩) (fun c => ⟨fun z => absurd rfl z, fun _ => ?_⟩)
      · refine s_fillT h.1 c hG h.2.2.2.2.2.2.2.2.2.2.2.2.1 (fun τ t1 t2 t3 => ?_)
        obtain ⟨m1, m2, m3⟩ := h.m0 t1
        refine s_gentlest t3 (fun r hr => ?_)
        show w_X8_spare (nI u) (nI v) τ _
        unfold w_X8_spare
        refine s_isSet h.1 m2.1 (fun _ _ _ _ => ⟨fun z => absurd z (by decide), fun _ => s_isSet h.1 m2.1 (fun _ _ _ _ => ⟨fun _ => ?_, fun z => absurd z (by decide)⟩) (fun z => absurd ⟨v, hv, rfl⟩ z)⟩) (fun z => absurd ⟨u, hu, rfl⟩ z)
        rw [(m2.is1 c).1]
        refine ⟨fun _ => s_sets0 h.1 c m1 m2 (fun ρ r1 rS => ⟨601, ?_⟩), fun z => absurd z (by decide)⟩
        have e45 : ρ 189 45 = cu C := by rw [r1 189 (by decide) (by decide)]; exact m1.z.2.1
        generalize hF : faS C (cu C) = F at hr
        have loop : ∀ m k v3 t θ, k + m = 600 → 1 ≤ t → t ≤ 41 → ((v3 = -1 ∧ t = 41 ∧ ∀ b, b < k → ¬ gdB F (nI u) (nI v) b) ∨ ∃ b, b < k ∧ gdB F (nI u) (nI v) b ∧ (∀ c, c < k → gdB F (nI u) (nI v) c → kyN b ≤ kyN c) ∧ v3 = nbF b ∧ t = 1 + b % 40) → TRY ρ θ → w_X8_spare_b49 (nI u) (nI v) (fun r' σ2 => r = r' ∧ Rel σ2) (m + 1) v3 (nI t) (nI k) θ := by
          intro m
          induction m with
          | zero =>
            intro k v3 t θ hk ht1 ht hv3 hT
            have : k = 600 := by omega
            subst this
            refine ⟨fun _ => ⟨hr.one ?_, h.tried2 t1 t2 t3 (fun q b1 b2 => by rw [hT.1 q b1 (by omega), r1 q (by omega) (by omega)]) (fun k b1 b2 b3 => by rw [hT.2 k b1 b2 b3, r1 185 (by decide) (by decide)])⟩, fun z => absurd (by decide) z⟩
            rcases hv3 with ⟨z1, -, z2⟩ | ⟨b, z1, z2, z3, z4, -⟩
            · exact Or.inr ⟨z2, z1⟩
            · exact Or.inl ⟨b, z1, z2, z3, z4⟩
          | succ m ih =>
            intro k v3 t θ hk ht1 ht hv3 hT
            have e4 : nI k - nI k / 40 * 40 = nI (k % 40) := pk_rem (d := 40) (by omega) (by decide) (by decide)
            have e5 : (1 : Int32) + nI (k % 40) = nI (1 + k % 40) := nI_add 1 (k % 40)
            have keep : (gdB F (nI u) (nI v) k → t ≤ 1 + k % 40) → ∀ θ2, TRY ρ θ2 → w_X8_spare_b49 (nI u) (nI v) (fun r' σ2 => r = r' ∧ Rel σ2) (m + 1) v3 (nI t) (nI (k + 1)) θ2 := by
              intro hg θ2 hT2
              refine ih (k + 1) v3 t θ2 (by omega) ht1 ht ?_ hT2
              rcases hv3 with ⟨z1, z2, z3⟩ | ⟨b, z1, z2, z3, z4, z5⟩
              · refine Or.inl ⟨z1, z2, fun b hb gb => ?_⟩
                by_cases e : b = k
                · subst e; have := hg gb; omega
                · exact z3 b (by omega) gb
              · refine Or.inr ⟨b, by omega, z2, fun c hc gc => ?_, z4, z5⟩
                by_cases e : c = k
                · subst e; have := hg gc; unfold kyN; omega
                · exact z3 c (by omega) gc
            have b108 : (gdB F (nI u) (nI v) k → t ≤ 1 + k % 40) → ∀ θ2, TRY ρ θ2 → w_X8_spare_b108 (nI u) (nI v) (w_X8_spare_b49 (nI u) (nI v) (fun r' σ2 => r = r' ∧ Rel σ2) (m + 1)) (fun r' σ2 => r = r' ∧ Rel σ2) v3 (nI t) (nI k) (nI (1 + k % 40)) θ2 := by
              intro hg θ2 hT2
              unfold w_X8_spare_b108 w_X8_spare_b109 w_X8_spare_b125 w_X8_spare_b138
              rw [nI_1]
              exact ⟨fun _ => ⟨fun _ => keep hg θ2 hT2, fun z => absurd rfl z⟩, fun z => absurd rfl z⟩
            unfold w_X8_spare_b49
            rw [hT.cu, e45]
            refine ⟨fun z => absurd z (nI_ge (a := k) (b := 600) (by omega) (by decide)), fun _ => s_goesBy h.1 c rS hT (by omega) (fun θ2 hT2 => ?_)⟩
            rw [e4, e5, hF]
            refine bI ⟨fun e1 => b108 (fun g => absurd (gd_m.mpr g).1 e1) θ2 hT2, fun e1 => ⟨fun e2 => b108 (fun g => absurd (gd_m.mpr g).2 e2) θ2 hT2, fun e2 => ⟨fun e3 => b108 (fun _ => (nI_leI (by omega) (by omega)).mp e3) θ2 hT2, fun e3 => ?_⟩⟩⟩
            have e3' : ¬ t ≤ 1 + k % 40 := fun z => e3 (nI_le z (by omega))
            have gk : gdB F (nI u) (nI v) k := gd_m.mp ⟨e1, e2⟩
            unfold w_X8_spare_b109
            refine ⟨fun z => absurd z (by decide), fun _ => s_mnum (by omega) ?_⟩
            unfold w_X8_spare_b125 w_X8_spare_b138
            rw [nI_1]
            refine ⟨fun z => absurd z (by decide), fun _ => ih (k + 1) (nbF k) (1 + k % 40) θ2 (by omega) (by omega) (by omega) (Or.inr ⟨k, by omega, gk, fun d hd gd => ?_, rfl, rfl⟩) hT2⟩
            by_cases e : d = k
            · subst e; exact Nat.le_refl _
            · rcases hv3 with ⟨z1, z2, z3⟩ | ⟨b, z1, z2, z3, z4, z5⟩
              · exact absurd gd (z3 d (by omega))
              · have := z3 d (by omega) gd
                unfold kyN at this ⊢
                omega
        exact loop 600 0 (-1) 41 ρ rfl (by omega) (by omega) (Or.inl ⟨rfl, rfl, fun b hb => by omega⟩) (TRY.rf ρ)
      · show w_X8_spare (nI u) (nI v) σ _
        unfold w_X8_spare
        refine s_isSet h.1 hm9 (fun _ _ _ _ => ⟨fun z => absurd z (by decide), fun _ => s_isSet h.1 hm9 (fun _ _ _ _ => ⟨fun _ => ?_, fun z => absurd z (by decide)⟩) (fun z => absurd ⟨v, hv, rfl⟩ z)⟩) (fun z => absurd ⟨u, hu, rfl⟩ z)
        have e7 : su σ 185 0 0 185 7 = 0 := by rw [su_k (by decide)]; exact h.2.2.2.1.is0 c
        rw [e7]
        exact ⟨fun z => absurd rfl z, fun _ => ⟨rfl, h0⟩⟩
    · show w_X8_spare (nI u) y σ _
      unfold w_X8_spare
      exact s_isSet h.1 hm9 (fun _ _ _ _ => ⟨fun z => absurd z (by decide), fun _ => s_isSet h.1 hm9 (fun v hv _ e => absurd ⟨v, hv, e⟩ hno) (fun _ => ⟨fun z => absurd rfl z, fun _ => ⟨rfl, h0⟩⟩)⟩) (fun z => absurd ⟨u, hu, rfl⟩ z)
  · show w_X8_spare x y σ _
    unfold w_X8_spare
    exact s_isSet h.1 hm9 (fun u hu _ e => absurd ⟨u, hu, e⟩ hno) (fun _ => ⟨fun _ => ⟨rfl, h0⟩, fun z => absurd rfl z⟩)
/-! the worst ball -/
theorem faS_rng {C : Cty} (hC : COk C) (b : Nat) : ∃ f : Nat, f < 512 ∧ faS C (cu C) b = nI f := by
  obtain ⟨u, hu, -, eu⟩ := hC.up
  rw [faS_fa, eu]
  obtain ⟨f, hf, e⟩ := fa_nI (C := C) u (nI (b / 120)) (nI (b / 40 % 3)) (nI (1 + b % 40))
  exact ⟨f, by omega, e⟩
theorem s_bitcF {σ : St} {x : Int32} (hx : ∃ f : Nat, f < 512 ∧ x = nI f) {P : Int32 → St → Prop} (h : P (popF x) σ) : w_J6_bitCount_0f7a4 x σ P := by
  obtain ⟨f, hf, rfl⟩ := hx
  exact s_bitc hf h
theorem pop_pos : ∀ f : Fin 512, ¬ popF (nI f.val) ≤ -1 := by decide +kernel
def wsN (F : Nat → Int32) : Nat → Nat → Nat → Nat
  | 0, _, j => j
  | m + 1, k, j => wsN F m (k + 1) (if popF (F k) ≤ popF (F j) then j else k)
theorem wsN_lt (F : Nat → Int32) : ∀ m k j, k + m ≤ 600 → j < 600 → wsN F m k j < 600 := by
  intro m
  induction m with
  | zero => intro k j _ h; exact h
  | succ m ih => intro k j hk hj; unfold wsN; refine ih (k + 1) _ (by omega) ?_; split <;> omega
theorem s_xworst {σ : St} {F : Nat → Int32} (hF : ∀ b, b < 600 → σ 177 b = F b) (hr : ∀ b, ∃ f : Nat, f < 512 ∧ F b = nI f) {P : Int32 → St → Prop} (h : P (nI (wsN F 599 1 0)) σ) : w_X6_worst σ P := by
  have loop : ∀ m k j, k + m = 600 → j < 600 → P (nI (wsN F m k j)) σ → w_X6_worst_b4 P (m + 1) (nI j) (nI k) σ := by
    intro m
    induction m with
    | zero =>
      intro k j hk hj h
      have : k = 600 := by omega
      subst this
      exact ⟨fun _ => h, fun z => absurd (by decide) z⟩
    | succ m ih =>
      intro k j hk hj h
      unfold w_X6_worst_b4 w_X6_worst_b34
      rw [cl_nI (by omega), cl_nI (by omega), hF k (by omega), nI_1]
      refine ⟨fun z => absurd z (nI_ge (a := k) (b := 600) (by omega) (by decide)), fun _ => ⟨in_nI (by omega), s_bitcF (hr k) ⟨in_nI (by omega), ?_⟩⟩⟩
      rw [hF j (by omega)]
      refine s_bitcF (hr j) ?_
      unfold wsN at h
      refine ⟨fun c => ?_, fun c => ?_⟩
      · rw [if_pos c] at h; exact ih (k + 1) j (by omega) hj h
      · rw [if_neg c] at h; exact ih (k + 1) k (by omega) (by omega) h
  exact ⟨600, loop 599 1 0 rfl (by decide) h⟩
theorem s_mworst {σ : St} {C : Cty} (hC : COk C) (hc : ¬ cf C = -1) (hM : GM σ 189 0 C) (hG : MG σ C) {w : Int32} {P : Int32 → St → Prop}
    (h : ∀ σ', (∀ q, q ≠ 185 → (q < 195 ∨ 201 < q) → σ' q = σ q) → (∀ k, k ≠ 26 → k ≠ 27 → k ≠ 28 → σ' 185 k = σ 185 k) → P (if w = 0 then nbF (wsN (faS C (cu C)) 599 1 0) else popF (faS C (cu C) (wsN (faS C (cu C)) 599 1 0))) σ') : w_X8_worst w σ P := by
  unfold w_X8_worst
  rw [(hG.is1 hc).1]
  refine ⟨fun _ => s_sets0 hC hc hM hG (fun ρ r1 rS => ⟨601, ?_⟩), fun z => absurd z (by decide)⟩
  have e45 : ρ 189 45 = cu C := by rw [r1 189 (by decide) (by decide)]; exact hM.z.2.1
  have hr := faS_rng hC
  generalize hF : faS C (cu C) = F at h hr
  have loop : ∀ m k j τ, k + m = 600 → TRY ρ τ → (∀ τ', TRY ρ τ' → P (if w = 0 then nbF (wsN F m k j) else popF (F (wsN F m k j))) τ') → w_X8_worst_b22 w P (m + 1) (nbF j) (popF (F j)) (nI k) τ := by
    intro m
    induction m with
    | zero =>
      intro k j τ hk hT h
      have : k = 600 := by omega
      subst this
      have h2 := h τ hT
      exact ⟨fun _ => ⟨fun e => by rw [if_neg e] at h2; exact h2, fun e => by rw [if_pos e] at h2; exact h2⟩, fun z => absurd (by decide) z⟩
    | succ m ih =>
      intro k j τ hk hT h
      unfold w_X8_worst_b22
      rw [hT.cu, e45]
      refine ⟨fun z => absurd z (nI_ge (a := k) (b := 600) (by omega) (by decide)), fun _ => s_goesBy hC hc rS hT (by omega) (fun τ2 hT2 => s_ones ?_)⟩
      rw [hF]
      unfold wsN at h
      refine ⟨fun c => ?_, fun c => s_mnum (by omega) ?_⟩
      · rw [if_pos c] at h
        unfold w_X8_worst_b63 w_X8_worst_b76
        rw [nI_1]
        exact ⟨fun _ => ih (k + 1) j τ2 (by omega) hT2 h, fun z => absurd c z⟩
      · rw [if_neg c] at h
        unfold w_X8_worst_b63 w_X8_worst_b76
        rw [nI_1]
        exact ⟨fun z => absurd z c, fun _ => ih (k + 1) k τ2 (by omega) hT2 h⟩
  unfold w_X8_worst_b22
  rw [e45]
  refine ⟨fun z => absurd z (by decide), fun _ => s_goesBy (b := 0) hC hc rS (TRY.rf ρ) (by decide) (fun τ2 hT2 => s_ones ?_)⟩
  rw [hF]
  obtain ⟨f, hf, ef⟩ := hr 0
  have h1 : ¬ popF (F 0) ≤ -1 := by rw [ef]; exact pop_pos ⟨f, hf⟩
  refine ⟨fun z => absurd z h1, fun _ => s_mnum (k := 0) (by decide) ?_⟩
  unfold w_X8_worst_b63 w_X8_worst_b76
  refine ⟨fun z => absurd z h1, fun _ => loop 599 1 0 τ2 rfl hT2 (fun τ hT => ?_)⟩
  exact h τ (fun q b1 b2 => by rw [hT.1 q b1 (by omega), r1 q (by omega) (by omega)]) (fun k b1 b2 b3 => by rw [hT.2 k b1 b2 b3, r1 185 (by decide) (by decide)])
