/-! ===== told, skittle, ask, spare ===== -/
def cnN (F : Nat → Int32) (k : Nat) : Nat → Nat → Nat
  | 0, _ => 0
  | m + 1, b => (if bt (F b) k then 1 else 0) + cnN F k m (b + 1)
theorem cnN_le (F : Nat → Int32) (k : Nat) : ∀ m b, cnN F k m b ≤ m := by
  intro m
  induction m with
  | zero => intro b; exact Nat.le_refl _
  | succ m ih => intro b; unfold cnN; have := ih (b + 1); split <;> omega
theorem s_fallsAmong {σ : St} {F : Nat → Int32} (hF : ∀ b, b < 600 → σ 177 b = F b) {k lo n : Nat} (hk : k < 32) (hn : lo + n ≤ 600) {P : Int32 → St → Prop} (h : P (nI (cnN F k n lo)) σ) : w_X6_fallsAmong (nI k) (nI lo) (nI (lo + n)) σ P := by
  have loop : ∀ m b c, b + m = lo + n → P (nI (c + cnN F k m b)) σ → w_X6_fallsAmong_b10 (nI k) (nI lo) (nI (lo + n)) P (m + 1) (nI c) (nI b) σ := by
    intro m
    induction m with
    | zero =>
      intro b c hb h
      have : b = lo + n := by omega
      subst this
      unfold w_X6_fallsAmong_b10
      exact ⟨fun _ => h, fun z => absurd (nI_le (Nat.le_refl _) (by omega)) z⟩
    | succ m ih =>
      intro b c hb h
      unfold w_X6_fallsAmong_b10
      rw [cl_nI (by omega), hF b (by omega), bt_val _ hk]
      have e : cnN F k (m + 1) b = (if bt (F b) k then 1 else 0) + cnN F k m (b + 1) := rfl
      rw [e, ← Nat.add_assoc] at h
      refine ⟨fun z => absurd z (nI_ge (by omega) (by omega)), fun _ => ⟨fun z => absurd z (nI_ge (a := b) (b := 600) (by omega) (by decide)), fun _ => ⟨in_nI (by omega), bI ?_⟩⟩⟩
      cases hb2 : bt (F b) k
      · rw [hb2] at h
        show w_X6_fallsAmong_b10 (nI k) (nI lo) (nI (lo + n)) P (m + 1) (nI c + 0) (nI b + 1) σ
        rw [Int32.add_zero, nI_1]
        exact ih (b + 1) c (by omega) h
      · rw [hb2] at h
        show w_X6_fallsAmong_b10 (nI k) (nI lo) (nI (lo + n)) P (m + 1) (nI c + 1) (nI b + 1) σ
        rw [nI_1, nI_1]
        exact ih (b + 1) (c + 1) (by omega) h
  unfold w_X6_fallsAmong
  rw [if_neg (nI_pos (by omega))]
  exact bI ⟨n + 1, loop n lo 0 (by omega) (by rw [Nat.zero_add]; exact h)⟩
theorem s_fallsOf {σ : St} {F : Nat → Int32} (hF : ∀ b, b < 600 → σ 177 b = F b) {k : Nat} (hk : k < 32) {P : Int32 → St → Prop} (h : P (nI (cnN F k 600 0)) σ) : w_X6_fallsOf (nI k) σ P :=
  ⟨fun _ => s_fallsAmong (lo := 0) (n := 600) hF hk (by decide) h, fun z => absurd z (nI_m1 (by omega))⟩
/-! whom to ask for -/
def askF (F : Nat → Int32) (l : Nat) : Nat → Nat → Int32 → Nat → Int32
  | 0, _, v, _ => v
  | m + 1, k, v, t => if t ≤ (if cnN F k 120 (l * 120) < 120 - cnN F k 120 (l * 120) then 120 - cnN F k 120 (l * 120) else cnN F k 120 (l * 120)) then askF F l m (k + 1) v t else askF F l m (k + 1) (nI k) (if cnN F k 120 (l * 120) < 120 - cnN F k 120 (l * 120) then 120 - cnN F k 120 (l * 120) else cnN F k 120 (l * 120))
theorem op_ask {σ : St} (h : Rel σ) (p : Int32) : Two (w_X7_ask p σ) (w_X8_ask p) := by
  have h0 := h.su0 0
  obtain ⟨C, L, I, h⟩ := h
  have hn := h.1.1
  have hG := h.2.1
  unfold Two w_X7_ask
  have out : (p < 0 ∨ 4 < p) → w_X8_ask p σ (fun r' σ2 => (-1000000002 : Int32) = r' ∧ Rel σ2) := by
    intro c
    unfold w_X8_ask
    exact s_in (fun c1 c2 => absurd c (by rintro (z | z); exact c1 z; exact c2 z)) (fun _ => ⟨fun z => absurd rfl z, fun _ => ⟨rfl, h0⟩⟩)
  refine ⟨fun c => out (Or.inl c), fun c1 => ⟨fun c2 => ?_, fun c => out (Or.inr (Int32.lt_of_lt_of_le (by decide) (Int32.not_lt.mp c)))⟩⟩
  obtain ⟨l, hl, rfl⟩ := rg (n := 5) (by decide) c1 (Int32.not_le.mpr c2)
  have inw : ∀ {τ : St} {Q : Int32 → St → Prop}, Q 1 τ → w_X8_in (nI l) 0 4 τ Q := fun hq => s_in (fun _ _ => hq) (fun z => absurd z (by rintro (z | z); exact c1 z; exact nI_nlt (a := 4) (b := l) (by omega) (by decide) z))
  refine s_county hG (fun c => ⟨fun _ => ?_, fun z => absurd z (by decide)⟩) (fun c => ⟨fun z => absurd rfl z, fun _ => ?_⟩)
  · refine s_fillT h.1 c hG h.2.2.2.2.2.2.2.2.2.2.2.2.1 (fun τ t1 t2 t3 => ?_)
    obtain ⟨m1, m2, m3⟩ := h.m0 t1
    have e8 : τ 0 8 = nI (cn C) := by rw [t1 0 (by omega)]; exact hG.2.1
    rw [e8]
    have xl : ∀ m k v t, k + m = cn C → t ≤ 120 → w_X8_ask (nI l) τ (fun r' σ2 => askF (faS C (cu C)) l m k v t = r' ∧ Rel σ2) → w_X6_bestToAsk_b9 (nI l) (nI (cn C)) (fun r8 σ7 => w_X8_ask (nI l) σ7 (fun r' σ2 => r8 = r' ∧ Rel σ2)) (m + 1) v (nI t) (nI k) τ := by
      intro m
      induction m with
      | zero =>
        intro k v t hk ht hw
        have : k = cn C := by omega
        subst this
        unfold w_X6_bestToAsk_b9
        exact ⟨fun _ => hw, fun z => absurd (nI_le (Nat.le_refl _) (by omega)) z⟩
      | succ m ih =>
        intro k v t hk ht hw
        unfold w_X6_bestToAsk_b9 w_X6_bestToAsk_b59
        have a1 : nI l * 120 = nI (l * 120) := pk_mul l 120
        have a2 : (nI l + 1) * 120 = nI (l * 120 + 120) := by
          rw [nI_1]
          show nI (l + 1) * nI 120 = _
          rw [pk_mul, Nat.add_mul]
        rw [a1, a2]
        refine ⟨fun z => absurd z (nI_ge (by omega) (by omega)), fun _ => s_fallsAmong t3 (by omega) (by omega) ?_⟩
        unfold askF at hw
        have hle := cnN_le (faS C (cu C)) k 120 (l * 120)
        generalize hx : cnN (faS C (cu C)) k 120 (l * 120) = x at hw hle ⊢
        have eu : (if nI x < 120 - nI x then 120 - nI x else nI x) = nI (if x < 120 - x then 120 - x else x) := by
          have e1 : (120 : Int32) - nI x = nI (120 - x) := pk_sub (a := 120) hle
          rw [e1]
          by_cases c : x < 120 - x
          · rw [if_pos c, if_pos (nI_lt c (by omega))]
          · rw [if_neg c, if_neg (nI_nlt (by omega) (by omega))]
        rw [eu]
        have hu : (if x < 120 - x then 120 - x else x) ≤ 120 := by split <;> omega
        generalize (if x < 120 - x then 120 - x else x) = u at hw hu ⊢
        refine bI ⟨fun z => ?_, fun z => ?_⟩
        · rw [if_pos ((nI_leI (by omega) (by omega)).mp z)] at hw
          rw [nI_1]
          exact ih (k + 1) v t (by omega) ht hw
        · rw [if_neg (fun y => z (nI_le y (by omega)))] at hw
          rw [nI_1]
          exact ih (k + 1) _ u (by omega) hu hw
    refine ⟨cn C + 1, xl (cn C) 0 (-1) 120 (by omega) (by omega) ?_⟩
    unfold w_X8_ask
    refine inw ⟨fun _ => ?_, fun z => absurd z (by decide)⟩
    rw [(m2.is1 c).1]
    refine ⟨fun _ => s_sets0 h.1 c m1 m2 (fun ρ r1 rS => ⟨cn C + 1, ?_⟩), fun z => absurd z (by decide)⟩
    have e45 : ρ 189 45 = cu C := by rw [r1 189 (by decide) (by decide)]; exact m1.z.2.1
    have e9 : ρ 185 9 = nI (cn C) := by rw [r1 185 (by decide) (by decide)]; exact m2.1
    have ml : ∀ m k v t θ, k + m = cn C → t ≤ 120 → TRY ρ θ → w_X8_ask_b41 (nI l) (fun r' σ2 => askF (faS C (cu C)) l m k v t = r' ∧ Rel σ2) (m + 1) v (nI t) (nI k) θ := by
      intro m
      induction m with
      | zero =>
        intro k v t θ hk ht hT
        have : k = cn C := by omega
        subst this
        unfold w_X8_ask_b41
        rw [hT.many, e9]
        exact ⟨fun _ => ⟨rfl, h.tried2 t1 t2 t3 (fun q b1 b2 => by rw [hT.1 q b1 (by omega), r1 q (by omega) (by omega)]) (fun k b1 b2 b3 => by rw [hT.2 k b1 b2 b3, r1 185 (by decide) (by decide)])⟩, fun z => absurd (nI_le (Nat.le_refl _) (by omega)) z⟩
      | succ m ih =>
        intro k v t θ hk ht hT
        unfold w_X8_ask_b41
        rw [hT.many, e9]
        refine ⟨fun z => absurd z (nI_ge (by omega) (by omega)), fun _ => ⟨121, ?_⟩⟩
        have inner : ∀ n j x θ2, j + n = 120 → x ≤ j → TRY ρ θ2 → x + cnN (faS C (cu C)) k n (l * 120 + j) = cnN (faS C (cu C)) k 120 (l * 120) → w_X8_ask_b56 (nI l) (w_X8_ask_b41 (nI l) (fun r' σ2 => askF (faS C (cu C)) l (m + 1) k v t = r' ∧ Rel σ2) (m + 1)) (fun r' σ2 => askF (faS C (cu C)) l (m + 1) k v t = r' ∧ Rel σ2) (n + 1) v (nI t) (nI k) (nI x) (nI j) θ2 := by
          intro n
          induction n with
          | zero =>
            intro j x θ2 hj hxj hT2 hx
            have : j = 120 := by omega
            subst this
            have hx' : x = cnN (faS C (cu C)) k 120 (l * 120) := hx
            unfold w_X8_ask_b56 w_X8_ask_b125 w_X8_ask_b139 w_X8_ask_b152
            unfold askF
            rw [← hx']
            have e1 : (120 : Int32) - nI x = nI (120 - x) := pk_sub (a := 120) hxj
            rw [e1, nI_1]
            refine ⟨fun _ => ?_, fun z => absurd (by decide) z⟩
            have fin : ∀ u, u = (if x < 120 - x then 120 - x else x) → ((nI t ≤ nI u → (nI t ≤ nI u → w_X8_ask_b41 (nI l) (fun r' σ2 => (if t ≤ (if x < 120 - x then 120 - x else x) then askF (faS C (cu C)) l m (k + 1) v t else askF (faS C (cu C)) l m (k + 1) (nI k) (if x < 120 - x then 120 - x else x)) = r' ∧ Rel σ2) (m + 1) v (nI t) (nI (k + 1)) θ2) ∧ (¬ nI t ≤ nI u → w_X8_ask_b41 (nI l) (fun r' σ2 => (if t ≤ (if x < 120 - x then 120 - x else x) then askF (faS C (cu C)) l m (k + 1) v t else askF (faS C (cu C)) l m (k + 1) (nI k) (if x < 120 - x then 120 - x else x)) = r' ∧ Rel σ2) (m + 1) v (nI u) (nI (k + 1)) θ2)) ∧ (¬ nI t ≤ nI u → (nI t ≤ nI u → w_X8_ask_b41 (nI l) (fun r' σ2 => (if t ≤ (if x < 120 - x then 120 - x else x) then askF (faS C (cu C)) l m (k + 1) v t else askF (faS C (cu C)) l m (k + 1) (nI k) (if x < 120 - x then 120 - x else x)) = r' ∧ Rel σ2) (m + 1) (nI k) (nI t) (nI (k + 1)) θ2) ∧ (¬ nI t ≤ nI u → w_X8_ask_b41 (nI l) (fun r' σ2 => (if t ≤ (if x < 120 - x then 120 - x else x) then askF (faS C (cu C)) l m (k + 1) v t else askF (faS C (cu C)) l m (k + 1) (nI k) (if x < 120 - x then 120 - x else x)) = r' ∧ Rel σ2) (m + 1) (nI k) (nI u) (nI (k + 1)) θ2))) := by
              intro u hu
              have hu2 : u ≤ 120 := by rw [hu]; split <;> omega
              rw [← hu]
              refine ⟨fun z => ⟨fun _ => ?_, fun y => absurd z y⟩, fun z => ⟨fun y => absurd y z, fun _ => ?_⟩⟩
              · rw [if_pos ((nI_leI (by omega) (by omega)).mp z)]
                exact ih (k + 1) v t θ2 (by omega) ht hT2
              · rw [if_neg (fun y => z (nI_le y (by omega)))]
                exact ih (k + 1) (nI k) u θ2 (by omega) hu2 hT2
            refine ⟨fun z => fin _ ?_, fun z => fin _ ?_⟩
            · have z' : x ≤ 120 - x := (nI_leI (by omega) (by omega)).mp z
              split <;> omega
            · have z' : ¬ x ≤ 120 - x := fun y => z (nI_le y (by omega))
              rw [if_neg (by omega)]
          | succ n ihn =>
            intro j x θ2 hj hxj hT2 hx
            unfold w_X8_ask_b56 w_X8_ask_b96
            have a1 : (120 : Int32) * nI l + nI j = nI (l * 120 + j) := by
              show nI 120 * nI l + nI j = _
              rw [pk_mul, nI_add, Nat.mul_comm]
            rw [a1, hT2.cu, e45]
            refine ⟨fun z => absurd z (nI_ge (a := j) (b := 120) (by omega) (by decide)), fun _ => s_goesBy h.1 c rS hT2 (by omega) (fun θ3 hT3 => s_mhas ?_)⟩
            have e : cnN (faS C (cu C)) k (n + 1) (l * 120 + j) = (if bt (faS C (cu C) (l * 120 + j)) k then 1 else 0) + cnN (faS C (cu C)) k n (l * 120 + (j + 1)) := rfl
            rw [e, ← Nat.add_assoc] at hx
            rw [bt_val _ (by omega), nI_1]
            cases hb : bt (faS C (cu C) (l * 120 + j)) k
            · rw [hb] at hx
              refine ⟨fun _ => ?_, fun z => absurd rfl z⟩
              rw [Int32.add_zero]
              exact ihn (j + 1) x θ3 (by omega) (by omega) hT3 hx
            · rw [hb] at hx
              refine ⟨fun z => absurd z (by decide), fun _ => ?_⟩
              rw [nI_1]
              exact ihn (j + 1) (x + 1) θ3 (by omega) (by omega) hT3 hx
        exact inner 120 0 0 θ (by omega) (Nat.le_refl _) hT (by rw [Nat.zero_add, Nat.add_zero])
    exact ml (cn C) 0 (-1) 120 ρ (by omega) (by omega) (TRY.rf ρ)
  · show w_X8_ask (nI l) σ _
    unfold w_X8_ask
    refine inw ⟨fun _ => ?_, fun z => absurd z (by decide)⟩
    have e7 : su σ 185 0 0 185 7 = 0 := by rw [su_k (by decide)]; exact h.2.2.2.1.is0 c
    rw [e7]
    exact ⟨fun z => absurd rfl z, fun _ => ⟨rfl, h0⟩⟩
