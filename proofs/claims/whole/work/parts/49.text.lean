/-! ===== the text of a county: one reading ===== -/
def skp (lt : Nat → Int32) : Nat → Nat → Nat
  | 0, j => j
  | n + 1, j => if lt j = 32 then skp lt n (j + 1) else j
def deN (lt : Nat → Int32) : Nat → Nat → Nat
  | 0, j => j
  | n + 1, j => if ¬ lt j < 48 ∧ ¬ 57 < lt j then deN lt n (j + 1) else j
def vlN (lt : Nat → Int32) (p : Nat) : Nat → Int32
  | 0 => 0
  | i + 1 => 10 * vlN lt p i + lt (p + i) - 48
/-- a text of m letters; none behind it -/
def TxT (lt : Nat → Int32) (m : Nat) : Prop := m ≤ 240 ∧ (∀ k, k < m → ∃ a : Nat, a < 256 ∧ lt k = nI a) ∧ ∀ k, m ≤ k → lt k = -1
def sk (lt : Nat → Int32) (m j : Nat) : Nat := skp lt (m - j) j
def de (lt : Nat → Int32) (m j : Nat) : Nat := deN lt (m - j) j
theorem sk_le (lt : Nat → Int32) : ∀ d m j, m - j = d → j ≤ m → j ≤ skp lt d j ∧ skp lt d j ≤ m := by
  intro d
  induction d with
  | zero => intro m j h hj; exact ⟨Nat.le_refl _, hj⟩
  | succ d ih =>
    intro m j h hj
    unfold skp
    split
    · have := ih m (j + 1) (by omega) (by omega); omega
    · exact ⟨Nat.le_refl _, hj⟩
theorem sk_rng (lt : Nat → Int32) {m j : Nat} (hj : j ≤ m) : j ≤ sk lt m j ∧ sk lt m j ≤ m := sk_le lt _ m j rfl hj
theorem sk_no {lt : Nat → Int32} {m : Nat} (hT : TxT lt m) : ∀ d j, m - j = d → ¬ lt (skp lt d j) = 32 := by
  intro d
  induction d with
  | zero => intro j h; show ¬ lt j = 32; rw [hT.2.2 j (by omega)]; decide
  | succ d ih =>
    intro j h
    unfold skp
    by_cases c : lt j = 32
    · rw [if_pos c]; exact ih (j + 1) (by omega)
    · rw [if_neg c]; exact c
theorem sk_32 {lt : Nat → Int32} {m : Nat} (hT : TxT lt m) (j : Nat) : ¬ lt (sk lt m j) = 32 := sk_no hT _ j rfl
theorem sk_id {lt : Nat → Int32} {m j : Nat} (h : ¬ lt j = 32) : sk lt m j = j := by
  unfold sk
  cases m - j with
  | zero => rfl
  | succ d => unfold skp; rw [if_neg h]
theorem sk_id2 {lt : Nat → Int32} {m : Nat} (hT : TxT lt m) (j : Nat) : sk lt m (sk lt m j) = sk lt m j := sk_id (sk_32 hT j)
theorem de_le (lt : Nat → Int32) : ∀ d m j, m - j = d → j ≤ m → j ≤ deN lt d j ∧ deN lt d j ≤ m := by
  intro d
  induction d with
  | zero => intro m j h hj; exact ⟨Nat.le_refl _, hj⟩
  | succ d ih =>
    intro m j h hj
    unfold deN
    split
    · have := ih m (j + 1) (by omega) (by omega); omega
    · exact ⟨Nat.le_refl _, hj⟩
theorem de_rng (lt : Nat → Int32) {m j : Nat} (hj : j ≤ m) : j ≤ de lt m j ∧ de lt m j ≤ m := de_le lt _ m j rfl hj
theorem lt_in {lt : Nat → Int32} {m : Nat} (hT : TxT lt m) {j : Nat} {c : Int32} (h : lt j = c) (hc : ¬ c = -1) : j < m := by
  rcases Nat.lt_or_ge j m with q | q
  · exact q
  · exact absurd (h.symm.trans (hT.2.2 j q)) hc
def sgF (lt : Nat → Int32) (m : Nat) (c : Int32) (j : Nat) : Except (Nat × Nat) Nat := if lt (sk lt m j) = c then .ok (sk lt m j + 1) else .error (1, sk lt m j)
def nuF (lt : Nat → Int32) (m : Nat) (lo hi : Int32) (j : Nat) : Except (Nat × Nat) (Int32 × Nat) :=
  if de lt m (sk lt m j) = sk lt m j then .error (1, sk lt m j)
  else if 3 < de lt m (sk lt m j) - sk lt m j then .error (2, sk lt m j)
  else if vlN lt (sk lt m j) (de lt m (sk lt m j) - sk lt m j) < lo ∨ hi < vlN lt (sk lt m j) (de lt m (sk lt m j) - sk lt m j) then .error (2, sk lt m j)
  else .ok (vlN lt (sk lt m j) (de lt m (sk lt m j) - sk lt m j), de lt m (sk lt m j))
theorem nu_ok {lt : Nat → Int32} {m : Nat} {lo hi : Int32} {j : Nat} {v : Int32} {e : Nat} (h : nuF lt m lo hi j = .ok (v, e)) (hj : j ≤ m) : ¬ v < lo ∧ ¬ hi < v ∧ j < e ∧ e ≤ m := by
  unfold nuF at h
  obtain ⟨a1, a2⟩ := sk_rng lt hj
  obtain ⟨b1, b2⟩ := de_rng lt a2
  split at h
  · simp at h
  · split at h
    · simp at h
    · split at h
      · simp at h
      · rename_i c1 c2 c3
        simp only [Except.ok.injEq, Prod.mk.injEq] at h
        obtain ⟨h1, h2⟩ := h
        rw [h1] at c3
        exact ⟨fun z => c3 (Or.inl z), fun z => c3 (Or.inr z), by omega, by omega⟩
theorem nu_bad {lt : Nat → Int32} {m : Nat} {lo hi : Int32} {j : Nat} {kd pl : Nat} (h : nuF lt m lo hi j = .error (kd, pl)) (hj : j ≤ m) : (kd = 1 ∨ kd = 2) ∧ pl ≤ m := by
  unfold nuF at h
  obtain ⟨a1, a2⟩ := sk_rng lt hj
  split at h
  · simp only [Except.error.injEq, Prod.mk.injEq] at h; omega
  · split at h
    · simp only [Except.error.injEq, Prod.mk.injEq] at h; omega
    · split at h
      · simp only [Except.error.injEq, Prod.mk.injEq] at h; omega
      · simp at h
def flF (lt : Nat → Int32) (m j : Nat) : Except (Nat × Nat) (Int32 × Nat) :=
  match nuF lt m 0 9 j with
  | .error x => .error x
  | .ok (v, j1) => match sgF lt m 59 j1 with
    | .error x => .error x
    | .ok j2 => .ok (v, j2)
def skF (lt : Nat → Int32) (m j : Nat) : Except (Nat × Nat) (Int32 × Int32 × Int32 × Nat) :=
  match nuF lt m 0 3 j with
  | .error x => .error x
  | .ok (a, j1) => match nuF lt m 1 20 j1 with
    | .error x => .error x
    | .ok (b, j2) => match nuF lt m 0 9 j2 with
      | .error x => .error x
      | .ok (c, j3) => match sgF lt m 59 j3 with
        | .error x => .error x
        | .ok j4 => .ok (a, b, c, j4)
def stD (D : Nat → Nat → Int32) (n : Nat) (a b c : Int32) : Nat → Nat → Int32 := fun i k => if k = n then (if i = 1 then a else if i = 2 then b else c) else D i k
/-- fault, its place, how many, what they are -/
abbrev Outc : Type := Nat × Nat × Nat × (Nat → Nat → Int32)
def rdS (lt : Nat → Int32) (m : Nat) : Nat → Nat → Nat → (Nat → Nat → Int32) → Outc
  | 0, _, n, D => (0, 0, n, D)
  | f + 1, j, n, D =>
    if m ≤ sk lt m j then (0, 0, n, D)
    else if lt (sk lt m j) = 103 then (3, sk lt m j, n, D)
    else if lt (sk lt m j) = 115 then (if n = 9 then (3, sk lt m j, n, D) else match skF lt m (sk lt m j + 1) with
      | .error (kd, pl) => (kd, pl, n, D)
      | .ok (a, b, c, j4) => rdS lt m f j4 (n + 1) (stD D n a b c))
    else (1, sk lt m j, n, D)
def rdA (lt : Nat → Int32) (m : Nat) : Int32 × Outc :=
  if m ≤ sk lt m 0 then (-1, 0, 0, 0, fun _ _ => 0)
  else if lt (sk lt m 0) = 103 then (match flF lt m (sk lt m 0 + 1) with
    | .error (kd, pl) => (0, kd, pl, 0, fun _ _ => 0)
    | .ok (v, j1) => (v, rdS lt m 240 j1 0 (fun _ _ => 0)))
  else (0, 1, sk lt m 0, 0, fun _ _ => 0)
/-! the program reads -/
def CT (τ : St) (lt : Nat → Int32) (m : Nat) : Prop := (∀ k, k < m → τ 162 k = lt k) ∧ τ 161 4 = nI m
def FR (τ τ' : St) : Prop := (∀ q, q ≠ 161 → τ' q = τ q) ∧ ∀ k, k ≠ 5 → k ≠ 8 → k ≠ 9 → τ' 161 k = τ 161 k
theorem FR.rf (τ : St) : FR τ τ := ⟨fun _ _ => rfl, fun _ _ _ _ => rfl⟩
theorem FR.trans {a b c : St} (h : FR a b) (h2 : FR b c) : FR a c := ⟨fun q hq => by rw [h2.1 q hq, h.1 q hq], fun k b1 b2 b3 => by rw [h2.2 k b1 b2 b3, h.2 k b1 b2 b3]⟩
theorem FR.ct {τ τ' : St} {lt : Nat → Int32} {m : Nat} (h : FR τ τ') (c : CT τ lt m) : CT τ' lt m := ⟨fun k hk => by rw [h.1 162 (by decide)]; exact c.1 k hk, by rw [h.2 4 (by decide) (by decide) (by decide)]; exact c.2⟩
theorem s_sees {τ : St} {lt : Nat → Int32} {m j : Nat} (hT : TxT lt m) (hC : CT τ lt m) (hj : j ≤ m) (h5 : τ 161 5 = nI j) {c : Int32} (hc : ¬ c = -1) {P : Int32 → St → Prop} (h : P (if lt j = c then 1 else 0) τ) : w_X2_sees c τ P := by
  have hm := hT.1
  unfold w_X2_sees
  rw [hC.2, h5, cl_nI (by omega)]
  refine ⟨fun z => ?_, fun z => ?_⟩
  · have : m ≤ j := (nI_leI (by omega) (by omega)).mp z
    rw [hT.2.2 j this, if_neg (fun e => hc e.symm)] at h; exact h
  · have hjm : j < m := Nat.lt_of_not_le (fun y => z (nI_le y (by omega)))
    rw [hC.1 j hjm]
    refine ⟨fun y => absurd y (nI_ge (a := j) (b := 240) (by omega) (by decide)), fun _ => ⟨in_nI (by omega), fun e => ?_, fun e => ?_⟩⟩
    · rw [if_neg e] at h; exact h
    · rw [if_pos e] at h; exact h
theorem s_isMore {τ : St} {lt : Nat → Int32} {m j : Nat} (hT : TxT lt m) (hC : CT τ lt m) (hj : j ≤ m) (h5 : τ 161 5 = nI j) {P : Int32 → St → Prop}
    (h : ∀ τ', FR τ τ' → τ' 161 5 = nI (sk lt m j) → τ' 161 8 = τ 161 8 → τ' 161 9 = τ 161 9 → P (if sk lt m j < m then 1 else 0) τ') : w_X2_isMore τ P := by
  have hm := hT.1
  have loop : ∀ d i θ, m - i = d → i ≤ m → skp lt d i = sk lt m j → FR τ θ → θ 161 5 = nI i → θ 161 8 = τ 161 8 → θ 161 9 = τ 161 9 → w_X2_isMore_b0 P (d + 1) θ := by
    intro d
    induction d with
    | zero =>
      intro i θ hd hi he hF a1 a2 a3
      have hCθ := hF.ct hC
      have him : i = m := by omega
      subst him
      have e0 : i = sk lt i j := he
      unfold w_X2_isMore_b0 w_X2_isMore_b33
      rw [hCθ.2, a1]
      refine ⟨fun _ => ⟨fun _ => ?_, fun z => absurd (nI_le (Nat.le_refl _) (by omega)) z⟩, fun z => absurd (nI_le (Nat.le_refl _) (by omega)) z⟩
      have hh := h θ hF (by rw [a1, ← e0]) a2 a3
      rw [if_neg (by omega)] at hh; exact hh
    | succ d ih =>
      intro i θ hd hi he hF a1 a2 a3
      have hCθ := hF.ct hC
      have fin : ¬ lt i = 32 → w_X2_isMore_b33 P θ := by
        intro c
        unfold skp at he
        rw [if_neg c] at he
        unfold w_X2_isMore_b33
        rw [hCθ.2, a1]
        have hh := h θ hF (by rw [a1, he]) a2 a3
        rw [if_pos (by omega)] at hh
        exact ⟨fun z => absurd z (nI_ge (by omega) (by omega)), fun _ => hh⟩
      unfold w_X2_isMore_b0
      rw [hCθ.2, a1]
      refine ⟨fun z => absurd z (nI_ge (by omega) (by omega)), fun _ => s_sees hT hCθ hi a1 (by decide) ?_⟩
      by_cases c : lt i = 32
      · rw [if_pos c]
        refine ⟨fun z => absurd z (by decide), fun _ => ?_⟩
        rw [a1, nI_1]
        refine ih (i + 1) _ (by omega) (by omega) ?_ ⟨fun q hq => by rw [su_q hq, hF.1 q hq], fun k b1 b2 b3 => by rw [su_k b1, hF.2 k b1 b2 b3]⟩ su_s (by rw [su_k (by decide)]; exact a2) (by rw [su_k (by decide)]; exact a3)
        unfold skp at he
        rw [if_pos c] at he; exact he
      · rw [if_neg c]
        exact ⟨fun _ => fin c, fun z => absurd rfl z⟩
  exact ⟨m - j + 1, loop (m - j) j τ rfl hj rfl (FR.rf τ) h5 rfl rfl⟩
theorem s_takeSign {τ : St} {lt : Nat → Int32} {m j : Nat} (hT : TxT lt m) (hC : CT τ lt m) (hj : j ≤ m) (h5 : τ 161 5 = nI j) (h8 : τ 161 8 = 0) {c : Int32} (hc : ¬ c = -1) {P : St → Prop}
    (hok : ∀ j2, sgF lt m c j = .ok j2 → j < j2 → j2 ≤ m → ∀ τ', FR τ τ' → τ' 161 5 = nI j2 → τ' 161 8 = 0 → τ' 161 9 = τ 161 9 → P τ')
    (hbad : ∀ pl, sgF lt m c j = .error (1, pl) → pl ≤ m → ∀ τ', FR τ τ' → τ' 161 8 = 1 → τ' 161 9 = nI pl → P τ') : w_X2_takeSign c τ P := by
  have hm := hT.1
  obtain ⟨a1, a2⟩ := sk_rng lt hj
  unfold w_X2_takeSign
  rw [h8]
  refine ⟨fun _ => s_isMore hT hC hj h5 (fun θ f1 f2 f3 f4 => ?_), fun z => absurd rfl z⟩
  have bad : ¬ lt (sk lt m j) = c → w_X2_takeSign_b36 c P θ := by
    intro hne
    unfold w_X2_takeSign_b36 w_X2_fail
    rw [f2]
    exact hbad (sk lt m j) (by unfold sgF; rw [if_neg hne]) a2 _ ⟨fun q hq => by rw [su_q hq, su_q hq, f1.1 q hq], fun k b1 b2 b3 => by rw [su_k b3, su_k b2, f1.2 k b1 b2 b3]⟩ (by rw [su_k (by decide)]; exact su_s) su_s
  by_cases cm : sk lt m j < m
  · rw [if_pos cm]
    refine ⟨fun z => absurd z (by decide), fun _ => s_sees hT (f1.ct hC) a2 f2 hc ?_⟩
    by_cases e : lt (sk lt m j) = c
    · rw [if_pos e]
      refine ⟨fun z => absurd z (by decide), fun _ => ?_⟩
      rw [f2, nI_1]
      exact hok (sk lt m j + 1) (by unfold sgF; rw [if_pos e]) (by omega) (by omega) _ ⟨fun q hq => by rw [su_q hq, f1.1 q hq], fun k b1 b2 b3 => by rw [su_k b1, f1.2 k b1 b2 b3]⟩ su_s (by rw [su_k (by decide), f3]; exact h8) (by rw [su_k (by decide)]; exact f4)
    · rw [if_neg e]
      exact ⟨fun _ => bad e, fun z => absurd rfl z⟩
  · rw [if_neg cm]
    exact ⟨fun _ => bad (fun e => cm (lt_in hT e hc)), fun z => absurd rfl z⟩
theorem s_noSign {τ : St} (h8 : ¬ τ 161 8 = 0) {c : Int32} {P : St → Prop} (h : P τ) : w_X2_takeSign c τ P := ⟨fun z => absurd z h8, fun _ => h⟩
theorem s_noNum {τ : St} (h8 : ¬ τ 161 8 = 0) {lo hi : Int32} {P : Int32 → St → Prop} (h : P lo τ) : w_X2_takeNumber lo hi τ P := ⟨fun z => absurd z h8, fun _ => h⟩
theorem s_seesFig {τ : St} {lt : Nat → Int32} {m j : Nat} (hT : TxT lt m) (hC : CT τ lt m) (hj : j ≤ m) (h5 : τ 161 5 = nI j) {P : Int32 → St → Prop} (h : P (if ¬ lt j < 48 ∧ ¬ 57 < lt j then 1 else 0) τ) : w_X2_seesFigure τ P := by
  have hm := hT.1
  unfold w_X2_seesFigure
  rw [hC.2, h5, cl_nI (by omega)]
  refine ⟨fun z => ?_, fun z => ?_⟩
  · have : m ≤ j := (nI_leI (by omega) (by omega)).mp z
    rw [hT.2.2 j this, if_neg (fun e => e.1 (by decide))] at h; exact h
  · have hjm : j < m := Nat.lt_of_not_le (fun y => z (nI_le y (by omega)))
    rw [hC.1 j hjm]
    refine ⟨fun y => absurd y (nI_ge (a := j) (b := 240) (by omega) (by decide)), fun _ => ⟨in_nI (by omega), fun e => ?_, fun e => ⟨in_nI (by omega), fun e2 => ?_, fun e2 => ?_⟩⟩⟩
    · rw [if_neg (fun y => y.1 e)] at h; exact h
    · rw [if_neg (fun y => y.2 e2)] at h; exact h
    · rw [if_pos ⟨e, e2⟩] at h; exact h
theorem s_takeNumber {τ : St} {lt : Nat → Int32} {m j : Nat} (hT : TxT lt m) (hC : CT τ lt m) (hj : j ≤ m) (h5 : τ 161 5 = nI j) (h8 : τ 161 8 = 0) {lo hi : Int32} {P : Int32 → St → Prop}
    (hok : ∀ v j2, nuF lt m lo hi j = .ok (v, j2) → ∀ τ', FR τ τ' → τ' 161 5 = nI j2 → τ' 161 8 = 0 → τ' 161 9 = τ 161 9 → P v τ')
    (hbad : ∀ kd pl, nuF lt m lo hi j = .error (kd, pl) → ∀ v τ', FR τ τ' → τ' 161 8 = nI kd → τ' 161 9 = nI pl → P v τ') : w_X2_takeNumber lo hi τ P := by
  have hm := hT.1
  obtain ⟨a1, a2⟩ := sk_rng lt hj
  obtain ⟨b1, b2⟩ := de_rng lt a2
  unfold w_X2_takeNumber
  rw [h8]
  refine ⟨fun _ => s_isMore hT hC hj h5 (fun θ f1 f2 f3 f4 => ?_), fun z => absurd rfl z⟩
  unfold nuF at hok hbad
  have no : ¬ (¬ lt (sk lt m j) < 48 ∧ ¬ 57 < lt (sk lt m j)) → w_X2_takeNumber_b23 lo hi P θ := by
    intro hne
    have e : de lt m (sk lt m j) = sk lt m j := by
      unfold de
      cases m - sk lt m j with
      | zero => rfl
      | succ d => unfold deN; rw [if_neg hne]
    rw [if_pos e] at hbad
    unfold w_X2_takeNumber_b23 w_X2_fail
    rw [f2]
    exact hbad 1 _ rfl lo _ ⟨fun q hq => by rw [su_q hq, su_q hq, f1.1 q hq], fun k b1 b2 b3 => by rw [su_k b3, su_k b2, f1.2 k b1 b2 b3]⟩ (by rw [su_k (by decide)]; exact su_s) su_s
  by_cases cm : sk lt m j < m
  · rw [if_pos cm]
    refine ⟨fun z => absurd z (by decide), fun _ => s_seesFig hT (f1.ct hC) a2 f2 ?_⟩
    by_cases c1 : ¬ lt (sk lt m j) < 48 ∧ ¬ 57 < lt (sk lt m j)
    · rw [if_pos c1]
      refine ⟨fun _ => ?_, fun z => absurd z (by decide)⟩
      have hde : de lt m (sk lt m j) = deN lt (m - (sk lt m j + 1)) (sk lt m j + 1) := by
        unfold de
        rw [show m - sk lt m j = (m - (sk lt m j + 1)) + 1 by omega, deN, if_pos c1]
      have hlt : sk lt m j < de lt m (sk lt m j) := by
        rw [hde]
        have := (de_le lt (m - (sk lt m j + 1)) m (sk lt m j + 1) rfl (by omega)).1
        omega
      rw [if_neg (by omega)] at hok hbad
      rw [f2]
      generalize hp : sk lt m j = p at *
      generalize hq : de lt m p = e at *
      refine ⟨m - p + 1, ?_⟩
      have loop : ∀ d i v φ, m - i = d → p ≤ i → i ≤ m → deN lt d i = e → FR τ φ → φ 161 5 = nI i → φ 161 8 = 0 → φ 161 9 = τ 161 9 → (i - p ≤ 3 → v = vlN lt p (i - p)) → w_X2_takeNumber_b42 lo hi P (d + 1) (nI p) v φ := by
        have fin : ∀ i v φ, p ≤ i → i ≤ m → i = e → FR τ φ → φ 161 5 = nI i → φ 161 8 = 0 → φ 161 9 = τ 161 9 → (i - p ≤ 3 → v = vlN lt p (i - p)) → w_X2_takeNumber_b103 lo hi P (nI p) v φ := by
          intro i v φ hpi him hie hF g1 g2 g3 hv
          subst hie
          unfold w_X2_takeNumber_b103
          rw [g1, pk_sub hpi]
          have bad : (3 < i - p ∨ (v < lo ∨ hi < v) ∧ i - p ≤ 3) → w_X2_takeNumber_b125 lo hi P (nI p) v φ := by
            intro hx
            unfold w_X2_takeNumber_b125 w_X2_fail
            have hb : ∀ v τ', FR τ τ' → τ' 161 8 = nI 2 → τ' 161 9 = nI p → P v τ' := by
              rcases hx with q | ⟨q, q2⟩
              · rw [if_pos q] at hbad
                exact hbad 2 p rfl
              · rw [hv q2] at q
                rw [if_neg (by omega), if_pos q] at hbad
                exact hbad 2 p rfl
            exact hb v _ ⟨fun q hq => by rw [su_q hq, su_q hq, hF.1 q hq], fun k b1 b2 b3 => by rw [su_k b3, su_k b2, hF.2 k b1 b2 b3]⟩ (by rw [su_k (by decide)]; exact su_s) su_s
          refine ⟨fun z => bad (Or.inl ((nI_ltI (a := 3) (by decide) (by omega)).mp z)), fun z => ?_⟩
          have z' : i - p ≤ 3 := Nat.le_of_not_lt (fun y => z (nI_lt (a := 3) y (by omega)))
          refine ⟨fun y => bad (Or.inr ⟨Or.inl y, z'⟩), fun y => ⟨fun w => ?_, fun w => bad (Or.inr ⟨Or.inr (Int32.not_le.mp w), z'⟩)⟩⟩
          rw [if_neg (by omega), ← hv z', if_neg (fun q => by rcases q with q | q; exact y q; exact absurd w (Int32.not_le.mpr q))] at hok
          exact hok v i rfl φ hF g1 g2 g3
        intro d
        induction d with
        | zero =>
          intro i v φ hd hpi him he hF g1 g2 g3 hv
          have hie : i = e := he
          unfold w_X2_takeNumber_b42
          rw [(hF.ct hC).2, g1]
          exact ⟨fun _ => fin i v φ hpi him hie hF g1 g2 g3 hv, fun z => absurd (nI_le (by omega) (by omega)) z⟩
        | succ d ih =>
          intro i v φ hd hpi him he hF g1 g2 g3 hv
          have him2 : i < m := by omega
          unfold w_X2_takeNumber_b42
          rw [(hF.ct hC).2, g1]
          refine ⟨fun z => absurd z (nI_ge (by omega) (by omega)), fun _ => s_seesFig hT (hF.ct hC) him g1 ?_⟩
          unfold deN at he
          by_cases c2 : ¬ lt i < 48 ∧ ¬ 57 < lt i
          · rw [if_pos c2] at he ⊢
            refine ⟨fun z => absurd z (by decide), fun _ => ?_⟩
            rw [g1, pk_sub hpi, cl_nI (by omega), (hF.ct hC).1 i him2]
            have nx : ∀ v', (i + 1 - p ≤ 3 → v' = vlN lt p (i + 1 - p)) → w_X2_takeNumber_b90 lo hi (w_X2_takeNumber_b42 lo hi P (d + 1)) P (nI p) v' φ := by
              intro v' hv'
              unfold w_X2_takeNumber_b90
              rw [g1, nI_1]
              exact ih (i + 1) v' _ (by omega) (by omega) (by omega) he ⟨fun q hq => by rw [su_q hq, hF.1 q hq], fun k b1 b2 b3 => by rw [su_k b1, hF.2 k b1 b2 b3]⟩ su_s (by rw [su_k (by decide)]; exact g2) (by rw [su_k (by decide)]; exact g3) hv'
            refine ⟨fun z => nx _ (fun y => ?_), fun z => ⟨in_nI (by omega), bI (nx _ (fun y => ?_))⟩⟩
            · have : 3 ≤ i - p := (nI_leI (a := 3) (by decide) (by omega)).mp z
              omega
            · have z' : ¬ 3 ≤ i - p := fun x => z (nI_le (a := 3) x (by omega))
              rw [show i + 1 - p = (i - p) + 1 by omega]
              unfold vlN
              rw [hv (by omega), show p + (i - p) = i by omega]
          · rw [if_neg c2] at he ⊢
            exact ⟨fun _ => fin i v φ hpi him he hF g1 g2 g3 hv, fun z => absurd rfl z⟩
      exact loop (m - p) p 0 θ rfl (Nat.le_refl _) a2 hq f1 f2 (f3.trans h8) f4 (fun _ => by rw [Nat.sub_self]; rfl)
    · rw [if_neg c1]
      exact ⟨fun z => absurd rfl z, fun _ => no c1⟩
  · rw [if_neg cm]
    refine ⟨fun _ => no (fun z => cm ?_), fun z => absurd rfl z⟩
    rcases Nat.lt_or_ge (sk lt m j) m with q | q
    · exact q
    · exact absurd (show lt (sk lt m j) < 48 by rw [hT.2.2 _ q]; decide) z.1
