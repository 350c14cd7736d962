/-! ===== calls, one by one: class and reference answer alike, and have as much in common as before ===== -/
def Two (W : (Int32 → St → Prop) → Prop) (V : St → (Int32 → St → Prop) → Prop) : Prop := W (fun r σ1 => V σ1 (fun r' σ2 => r = r' ∧ Rel σ2))
theorem RelC.su0 {σ : St} {C : Cty} {L : List Cty} {I : Nat → Cty} (h : RelC σ C L I) (v : Int32) : RelC (su σ 185 0 v) C L I := by
  refine h.tried (fun q _ hq => su_q (fun e => hq (by subst e; exact Or.inr (Or.inr (Or.inl rfl))))) (fun k hk _ _ _ => su_k hk) ?_ ?_
  · exact h.2.2.2.2.2.2.2.2.2.2.2.2.1.of (by rw [su_q (by decide)]) (su_q (by decide))
  · exact h.2.2.2.2.2.2.2.2.2.2.2.2.2.of (su_q (by decide))
theorem Rel.su0 {σ : St} (h : Rel σ) (v : Int32) : Rel (su σ 185 0 v) := by
  obtain ⟨C, L, I, h⟩ := h
  exact ⟨C, L, I, h.su0 v⟩
theorem s_in {x lo hi : Int32} {σ : St} {P : Int32 → St → Prop} (h1 : ¬ x < lo → ¬ hi < x → P 1 σ) (h0 : x < lo ∨ hi < x → P 0 σ) : w_X8_in x lo hi σ P :=
  ⟨fun c => h0 (Or.inl c), fun c => ⟨fun c2 => h0 (Or.inr c2), fun c2 => h1 c c2⟩⟩
theorem nI_sub1 (n : Nat) (hn : n < 2 ^ 30) (x : Int32) : nI n - 1 < x ↔ (x < 0 ∧ n = 0 ∧ -1 < x) ∨ (¬ x < 0 ∧ ¬ ∃ j : Nat, j < n ∧ x = nI j) ∨ (x < 0 ∧ nI n - 1 < x) := by
  constructor
  · intro h
    by_cases c : x < 0
    · exact Or.inr (Or.inr ⟨c, h⟩)
    · refine Or.inr (Or.inl ⟨c, ?_⟩)
      rintro ⟨j, hj, rfl⟩
      rw [Int32.lt_iff_toInt_lt, show (nI n - 1).toInt = (n : Int) - 1 from pk_sub_toInt (b := 1) hn (by decide), nI_toInt (by omega)] at h
      omega
  · rintro (⟨_, hn0, h⟩ | ⟨c, h⟩ | ⟨_, h⟩)
    · rw [hn0]; exact h
    · obtain ⟨j, hj, rfl⟩ := nI_of c
      have : n ≤ j := by
        rcases Nat.lt_or_ge j n with q | q
        · exact absurd ⟨j, q, rfl⟩ h
        · exact q
      rw [Int32.lt_iff_toInt_lt, show (nI n - 1).toInt = (n : Int) - 1 from pk_sub_toInt (b := 1) hn (by decide), nI_toInt hj]
      omega
    · exact h
theorem s_isSkittle {σ : St} {n : Nat} (hn : n ≤ 9) (hc : σ 185 9 = nI n) {k : Int32} {P : Int32 → St → Prop} (h1 : ∀ j : Nat, j < n → k = nI j → P 1 σ) (h0 : (¬ ∃ j : Nat, j < n ∧ k = nI j) → P 0 σ) : w_X8_isSkittle k σ P := by
  unfold w_X8_isSkittle
  rw [hc]
  refine s_in (fun c1 c2 => ⟨rfl, ?_⟩) (fun c => ⟨rfl, h0 ?_⟩)
  · by_cases e : ∃ j : Nat, j < n ∧ k = nI j
    · obtain ⟨j, hj, e⟩ := e; exact h1 j hj e
    · exact absurd ((nI_sub1 n (by omega) k).mpr (Or.inr (Or.inl ⟨c1, e⟩))) c2
  · rintro ⟨j, hj, rfl⟩
    rcases c with c | c
    · exact nI_pos (by omega) c
    · rw [Int32.lt_iff_toInt_lt, show (nI n - 1).toInt = (n : Int) - 1 from pk_sub_toInt (b := 1) (by omega) (by decide), nI_toInt (by omega)] at c
      omega
theorem s_xPlate {σ : St} {p : Int32} {P : Int32 → St → Prop} (h1 : ∀ j : Nat, j < 9 → p = nI j → P 1 σ) (h0 : (¬ ∃ j : Nat, j < 9 ∧ p = nI j) → P 0 σ) : w_X7_isPlate p σ P := by
  refine ⟨fun c => h0 ?_, fun c => ⟨fun c2 => h0 ?_, fun c2 => ?_⟩⟩
  · rintro ⟨j, hj, rfl⟩; exact nI_pos (by omega) c
  · rintro ⟨j, hj, rfl⟩; exact nI_ge (a := j) (b := 9) hj (by decide) c2
  · obtain ⟨j, hj, e⟩ := rg (n := 9) (by decide) c c2
    exact h1 j hj e
theorem s_mPlate {σ : St} {p : Int32} {P : Int32 → St → Prop} (h1 : ∀ j : Nat, j < 9 → p = nI j → P 1 σ) (h0 : (¬ ∃ j : Nat, j < 9 ∧ p = nI j) → P 0 σ) : w_X8_isPlate p σ P := by
  unfold w_X8_isPlate
  refine s_in (fun c1 c2 => ⟨rfl, ?_⟩) (fun c => ⟨rfl, h0 ?_⟩)
  · obtain ⟨j, hj, e⟩ := nI_of2 (M := 8) (n := 8) (by decide) c1 (Int32.not_lt.mp c2)
    exact h1 j (by omega) e
  · rintro ⟨j, hj, rfl⟩
    rcases c with c | c
    · exact nI_pos (by omega) c
    · exact nI_nlt (a := 8) (b := j) (by omega) (by decide) c
theorem op_fault {σ : St} (h : Rel σ) : Two (w_X7_fault σ) w_X8_fault := by
  obtain ⟨C, L, I, h⟩ := h
  unfold Two w_X7_fault w_X8_fault
  exact ⟨by rw [su_k (by decide)]; exact h.2.2.2.2.2.2.2.2.2.1, C, L, I, h.su0 0⟩
theorem op_plate {σ : St} (h : Rel σ) (p : Int32) : Two (w_X7_plate p σ) (w_X8_plate p) := by
  obtain ⟨C, L, I, h⟩ := h
  have h0 := h.su0 0
  unfold Two w_X7_plate w_X8_plate
  refine s_xPlate (fun j hj e => ⟨fun c => absurd c (by decide), fun _ => ?_⟩) (fun hn => ⟨fun _ => ?_, fun c => absurd rfl c⟩)
  · subst e
    refine ⟨in_nI hj, s_mPlate (fun i hi e => ⟨fun c => absurd c (by decide), fun _ => s_whoOn h0.1 h0.2.2.1 h0.2.2.2.1 ⟨?_, C, L, I, h0⟩⟩) (fun hn => absurd ⟨j, hj, rfl⟩ hn)⟩
    rw [cl_nI (by omega)]
    exact h.2.1.2.2.2.2.2.2 j hj
  · exact s_mPlate (fun i hi e => absurd ⟨i, hi, e⟩ hn) (fun _ => ⟨fun _ => ⟨rfl, C, L, I, h0⟩, fun c => absurd rfl c⟩)
theorem op_feed {σ : St} (h : Rel σ) (p : Int32) : Two (w_X7_feed p σ) (w_X8_feed p) := by
  obtain ⟨C, L, I, h⟩ := h
  have h0 := h.su0 0
  have hr := h
  obtain ⟨a1, a2, a3, a4, a5, a6, a7, a8, a9, a10, a11, a12, a13, a14⟩ := h
  obtain ⟨m, hm, t1, t2, t3⟩ := a9
  unfold Two w_X7_feed
  -- refused by both
  have out : (p < 0 ∨ 255 < p) → w_X8_feed p σ (fun r' σ2 => (-1000000002 : Int32) = r' ∧ Rel σ2) := by
    intro c
    unfold w_X8_feed
    exact s_in (fun c1 c2 => absurd c (by rintro (z | z); exact c1 z; exact c2 z)) (fun _ => ⟨fun z => absurd rfl z, fun _ => ⟨rfl, C, L, I, h0⟩⟩)
  refine ⟨fun c => out (Or.inl c), fun c1 => ⟨fun c2 => ?_, fun c => out (Or.inr (Int32.not_le.mp c))⟩⟩
  obtain ⟨a, ha, rfl⟩ := nI_of2 (M := 255) (n := 255) (by decide) c1 c2
  unfold w_X2_append
  rw [t1, cl_nI (by omega)]
  refine ⟨fun c => ⟨?_, bS ?_⟩, fun c => ?_⟩
  · have hlt : m < 240 := (nI_ltI (b := 240) (by omega) (by decide)).mp c
    exact in_nI hlt
  · have hlt : m < 240 := (nI_ltI (b := 240) (by omega) (by decide)).mp c
    have e1 : su σ 162 m (nI a) 161 4 = nI m := by rw [su_q (by decide)]; exact t1
    rw [e1, nI_1, su_s]
    unfold w_X8_feed
    refine s_in (fun _ _ => ⟨fun _ => ?_, fun z => absurd z (by decide)⟩) (fun z => absurd z (by rintro (z | z); exact c1 z; exact absurd c2 (Int32.not_le.mpr z)))
    generalize hτ : su (su σ 162 m (nI a)) 161 4 (nI (m + 1)) = τ
    have ho : ∀ q, q ≠ 161 → q ≠ 162 → τ q = σ q := fun q b1 b2 => by rw [← hτ, su_q b1, su_q b2]
    have e5 : su τ 185 0 0 185 2 = nI m := by rw [su_k (by decide), ho 185 (by decide) (by decide)]; exact t2
    rw [e5, cl_nI (by omega)]
    refine ⟨fun _ => ⟨in_nI hlt, bS ?_⟩, fun z => absurd (nI_inj (b := 240) (by omega) (by decide) z) (by omega)⟩
    have e6 : su (su τ 185 0 0) 186 m (nI a) 185 2 = nI m := by rw [su_q (by decide)]; exact e5
    rw [e6, nI_1, su_s]
    generalize hρ : su (su (su τ 185 0 0) 186 m (nI a)) 185 2 (nI (m + 1)) = ρ
    have hz : ∀ q, q ≠ 161 → q ≠ 162 → q ≠ 185 → q ≠ 186 → ρ q = σ q := fun q b1 b2 b3 b4 => by rw [← hρ, su_q b3, su_q b4, su_q b3, ho q b1 b2]
    have hk : ∀ k, k ≠ 0 → k ≠ 2 → ρ 185 k = σ 185 k := fun k b1 b2 => by rw [← hρ, su_k b2, su_q (by decide), su_k b1, ho 185 (by decide) (by decide)]
    have r161 : ρ 161 = τ 161 := by rw [← hρ, su_q (by decide), su_q (by decide), su_q (by decide)]
    have r162 : ρ 162 = τ 162 := by rw [← hρ, su_q (by decide), su_q (by decide), su_q (by decide)]
    refine ⟨rfl, C, L, I, a1, a2.of (fun q b1 b2 => hz q (by omega) (by omega) (by omega) (by omega)), a3.of a1.1 (fun k _ _ => by rw [hz 189 (by decide) (by decide) (by decide) (by decide)]), a4.of (hk 7 (by decide) (by decide)) (hk 8 (by decide) (by decide)) (hk 9 (by decide) (by decide)) (hz 188 (by decide) (by decide) (by decide) (by decide)), a5, a6.of (by rw [hz 166 (by decide) (by decide) (by decide) (by decide)]) (by rw [hz 166 (by decide) (by decide) (by decide) (by decide)]) (fun q b1 b2 => hz q (by omega) (by omega) (by omega) (by omega)), a7.of (fun D hD => (a5 D hD).1) (hk 18 (by decide) (by decide)) (hz 192 (by decide) (by decide) (by decide) (by decide)), a8.of (fun q b1 b2 => hz q (by omega) (by omega) (by omega) (by omega)) (hz 169 (by decide) (by decide) (by decide) (by decide)) (hz 170 (by decide) (by decide) (by decide) (by decide)) (hz 190 (by decide) (by decide) (by decide) (by decide)) (hz 191 (by decide) (by decide) (by decide) (by decide)), ⟨m + 1, by omega, ?_, by rw [← hρ]; exact su_s, fun k hk2 => ?_⟩, ?_, ?_, a12.of (by rw [hz 182 (by decide) (by decide) (by decide) (by decide)]) (hk 21 (by decide) (by decide)) (hz 183 (by decide) (by decide) (by decide) (by decide)) (hz 193 (by decide) (by decide) (by decide) (by decide)) (hz 184 (by decide) (by decide) (by decide) (by decide)) (hz 194 (by decide) (by decide) (by decide) (by decide)), a13.of (by rw [hz 176 (by decide) (by decide) (by decide) (by decide)]) (hz 177 (by decide) (by decide) (by decide) (by decide)), a14.of (hz 178 (by decide) (by decide) (by decide) (by decide))⟩
    · rw [r161, ← hτ]; exact su_s
    · have e7 : ρ 186 k = if k = m then nI a else σ 186 k := by
        rw [← hρ, su_q (by decide), su_ap, if_pos rfl, su_q (by decide), ho 186 (by decide) (by decide)]
      have e8 : ρ 162 k = if k = m then nI a else σ 162 k := by
        rw [r162, ← hτ, su_q (by decide), su_ap, if_pos rfl]
      rw [e7, e8]
      by_cases hkm : k = m
      · rw [if_pos hkm, if_pos hkm]; exact ⟨rfl, a, by omega, rfl⟩
      · rw [if_neg hkm, if_neg hkm]; exact t3 k (by omega)
    · rw [hz 160 (by decide) (by decide) (by decide) (by decide), hk 6 (by decide) (by decide)]; exact a10
    · unfold SdX; rw [hz 160 (by decide) (by decide) (by decide) (by decide), hz 189 (by decide) (by decide) (by decide) (by decide)]; exact a11
  · have hmm : m = 240 := by
      have : ¬ m < 240 := fun q => c (nI_lt (b := 240) q (by decide))
      omega
    unfold w_X8_feed
    refine s_in (fun _ _ => ⟨fun _ => ?_, fun z => absurd z (by decide)⟩) (fun z => absurd z (by rintro (z | z); exact c1 z; exact absurd c2 (Int32.not_le.mpr z)))
    have e5 : su σ 185 0 0 185 2 = nI m := by rw [su_k (by decide)]; exact t2
    rw [e5, hmm]
    exact ⟨fun z => absurd rfl z, fun _ => ⟨rfl, C, L, I, h0⟩⟩
def clF (q : Int32) : Nat → Int64 → Int64
  | 0, v => v
  | m + 1, v => clF q m (v * q.toInt64 / 100)
theorem s_xcalm {a : Nat} {q : Int32} {σ : St} {P : Int32 → St → Prop} : ∀ (m i : Nat) (v : Int64), i + m = a ∧ a ≤ 60 → P (clF q m v).toInt32 σ → w_X7_calm_b30 (nI a) q P (m + 1) v (nI i) σ := by
  intro m
  induction m with
  | zero =>
    intro i v hi h
    have : i = a := by omega
    subst this
    exact ⟨fun _ => h, fun c => absurd (nI_le (Nat.le_refl _) (by omega)) c⟩
  | succ m ih =>
    intro i v hi h
    unfold w_X7_calm_b30
    refine ⟨fun c => absurd c (nI_ge (by omega) (by omega)), fun _ => ?_⟩
    rw [nI_1]
    exact ih (i + 1) _ (by omega) h
theorem s_mcalm {a : Nat} {q : Int32} {σ : St} {P : Int32 → St → Prop} : ∀ (m i : Nat) (v : Int64), i + m = a ∧ a ≤ 60 → P (clF q m v).toInt32 σ → w_X8_calm_b35 (nI a) q P (m + 1) v (nI i) σ := by
  intro m
  induction m with
  | zero =>
    intro i v hi h
    have : i = a := by omega
    subst this
    exact ⟨fun _ => h, fun c => absurd (nI_le (Nat.le_refl _) (by omega)) c⟩
  | succ m ih =>
    intro i v hi h
    unfold w_X8_calm_b35
    refine ⟨fun c => absurd c (nI_ge (by omega) (by omega)), fun _ => ?_⟩
    rw [nI_1]
    exact ih (i + 1) _ (by omega) h
theorem op_calm {σ : St} (h : Rel σ) (n q : Int32) : Two (w_X7_calm n q σ) (w_X8_calm n q) := by
  have h0 := h.su0 0
  have out : (n < 0 ∨ 60 < n ∨ q < 0 ∨ 100 < q) → w_X8_calm n q σ (fun r' σ2 => (-1000000002 : Int32) = r' ∧ Rel σ2) := by
    intro c
    unfold w_X8_calm
    refine s_in (fun c1 c2 => ⟨fun z => absurd z (by decide), fun _ => s_in (fun c3 c4 => ?_) (fun _ => ⟨fun z => absurd rfl z, fun _ => ⟨rfl, h0⟩⟩)⟩) (fun _ => ⟨fun _ => ⟨rfl, h0⟩, fun z => absurd rfl z⟩)
    rcases c with z | z | z | z
    · exact absurd z c1
    · exact absurd z c2
    · exact absurd z c3
    · exact absurd z c4
  unfold Two w_X7_calm
  refine ⟨fun c => out (Or.inl c), fun c1 => ⟨fun c => out (Or.inr (Or.inl c)), fun c2 => ⟨fun c => out (Or.inr (Or.inr (Or.inl c))), fun c3 => ⟨fun c4 => ?_, fun c => out (Or.inr (Or.inr (Or.inr (Int32.not_le.mp c))))⟩⟩⟩⟩
  obtain ⟨a, ha, rfl⟩ := nI_of2 (M := 60) (n := 60) (by decide) c1 (Int32.not_lt.mp c2)
  refine ⟨a + 1, s_xcalm a 0 _ (by omega) ?_⟩
  unfold w_X8_calm
  exact s_in (fun _ _ => ⟨fun z => absurd z (by decide), fun _ => s_in (fun _ _ => ⟨fun _ => ⟨a + 1, s_mcalm a 0 _ (by omega) ⟨rfl, h0⟩⟩, fun z => absurd z (by decide)⟩) (fun z => absurd z (by rintro (z | z); exact c3 z; exact absurd c4 (Int32.not_le.mpr z)))⟩) (fun z => absurd z (by rintro (z | z); exact c1 z; exact c2 z))
