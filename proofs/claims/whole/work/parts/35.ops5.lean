/-! ===== undo, keep, goBack ===== -/
theorem op_undo {σ : St} (h : Rel σ) : Two (w_X7_undo σ) w_X8_undo := by
  have h0 := h.su0 0
  obtain ⟨C, L, I, h⟩ := h
  have hr := h
  obtain ⟨a1, a2, a3, a4, a5, a6, a7, a8, a9, a10, a11, a12, a13, a14⟩ := h
  have e18 : su σ 185 0 0 185 18 = nI L.length := by rw [su_k (by decide)]; exact a7.2.1
  unfold Two w_X7_undo
  cases L with
  | nil =>
    rw [a6.2.1]
    refine ⟨fun c => absurd rfl c, fun _ => ?_⟩
    show w_X8_undo σ _
    unfold w_X8_undo
    rw [e18]
    exact ⟨fun c => absurd rfl c, fun _ => ⟨rfl, h0⟩⟩
  | cons D L =>
    have hD := a5 D List.mem_cons_self
    have hL : ∀ E ∈ L, COk E ∧ CC C E := fun E hE => a5 E (List.mem_cons_of_mem _ hE)
    have hlen : L.length + 1 ≤ 16 := a6.1
    rw [a6.2.1]
    refine ⟨fun _ => ?_, fun c => absurd c (nI_ne0 (n := L.length + 1) (by omega) (by omega))⟩
    refine s_restore hD.1 (fun E hE => (hL E hE).1) a6 (fun τ t1 t2 t3 => ?_)
    unfold w_X7_stirred
    generalize hτ2 : su (su τ 176 1 0) 178 4 0 = τ2
    have o2 : ∀ q, q ≠ 176 → q ≠ 178 → τ2 q = τ q := fun q b1 b2 => by rw [← hτ2, su_q b2, su_q b1]
    have e166 : τ2 166 2 = nI L.length := by rw [o2 166 (by decide) (by decide)]; exact t3.2.1
    rw [e166]
    show w_X8_undo τ2 _
    unfold w_X8_undo
    have g18 : su τ2 185 0 0 185 18 = nI (L.length + 1) := by rw [su_k (by decide), o2 185 (by decide) (by decide), t1 185 (by decide) (by decide)]; exact a7.2.1
    rw [g18, nI_pred]
    refine ⟨fun _ => ?_, fun c => absurd c (nI_ne0 (by omega) (by omega))⟩
    refine s_mundo_loop (m := L.length) (by omega) su_s (fun ρ r1 r2 => ⟨rfl, D, L, I, ?_⟩)
    have hm : ∀ q, q ≠ 185 → 8 ≤ q → q ≠ 166 → q ≠ 176 → q ≠ 178 → q ≠ 189 → ρ q = σ q := fun q b1 b2 b3 b4 b5 b6 => by rw [r1 q b6, su_q b1, su_q b1, o2 q b4 b5, t1 q b2 b3]
    have h189 : ∀ j, 48 ≤ j → ρ 189 j = σ 189 j := fun j hj => by rw [r2 j, if_neg (by omega), su_q (by decide), su_q (by decide), o2 189 (by decide) (by decide), t1 189 (by decide) (by decide)]
    have x2 : ∀ q, q < 8 → ρ q = τ q := fun q hq => by rw [r1 q (by omega), su_q (by omega), su_q (by omega), o2 q (by omega) (by omega)]
    have gm := a7.2.2 0 D rfl
    refine hr.done hD.1 hD.2 (t2.of (fun q b1 b2 => x2 q (by omega))) ?_ hL ?_ ?_ ?_ (fun q hq => hm q (by omega) (by omega) (by omega) (by omega) (by omega) (by omega)) (by rw [hm 160 (by decide) (by decide) (by decide) (by decide) (by decide) (by decide)]) (fun k b1 b2 b3 b4 b5 => by rw [r1 185 (by decide), su_k b2, su_k b1, o2 185 (by decide) (by decide), t1 185 (by decide) (by decide)]) (by rw [r1 176 (by decide), su_q (by decide), su_q (by decide), ← hτ2, su_q (by decide), su_s]) (by rw [r1 178 (by decide), su_q (by decide), su_q (by decide), ← hτ2, su_s])
    · refine GM.cp hD.1.1 gm (fun k hk => ?_)
      rw [Nat.zero_add, r2 k, if_pos hk, su_q (by decide), su_q (by decide), o2 192 (by decide) (by decide), t1 192 (by decide) (by decide)]
      rfl
    · exact t3.of (by rw [r1 166 (by decide), su_q (by decide), su_q (by decide), o2 166 (by decide) (by decide)]) (by rw [r1 166 (by decide), su_q (by decide), su_q (by decide), o2 166 (by decide) (by decide)]) (fun q b1 b2 => by rw [r1 q (by omega), su_q (by omega), su_q (by omega), o2 q (by omega) (by omega)])
    · refine ⟨by omega, by rw [r1 185 (by decide), su_s], fun i E hE => ?_⟩
      have hi2 : i < L.length := (List.getElem?_eq_some_iff.mp hE).1
      have g := a7.2.2 (i + 1) E (by rw [List.getElem?_cons_succ]; exact hE)
      rw [List.length_cons, show L.length + 1 - 1 - (i + 1) = L.length - 1 - i by omega] at g
      exact g.of (hL E (List.mem_of_getElem? hE)).1.1 (fun k _ _ => by rw [hm 192 (by decide) (by decide) (by decide) (by decide) (by decide) (by decide)])
    · unfold SdX; rw [hm 160 (by decide) (by decide) (by decide) (by decide) (by decide) (by decide), h189 48 (by decide)]; exact a11
theorem i01 {p : Int32} (c1 : ¬ p < 0) (c2 : p < 2) : ∃ i : Nat, i < 2 ∧ p = nI i := rg (n := 2) (by decide) c1 (i32ltn c2)
theorem s_mkeep {i : Nat} (hi : i < 2) {τ0 : St} {P : Int32 → St → Prop} (h : ∀ σ', (∀ q, q ≠ 190 → σ' q = τ0 q) → (∀ j, σ' 190 j = if 49 * i ≤ j ∧ j < 49 * i + 49 then τ0 189 (j - 49 * i) else τ0 190 j) → P 1 (su (su σ' 191 i 1) 185 18 0)) : ∃ f, w_X8_keep_b19 (nI i) P f 0 τ0 := by
  have loop : ∀ r k τ, k + r = 49 → (∀ q, q ≠ 190 → τ q = τ0 q) → (∀ j, τ 190 j = if 49 * i ≤ j ∧ j < 49 * i + k then τ0 189 (j - 49 * i) else τ0 190 j) → w_X8_keep_b19 (nI i) P (r + 1) (nI k) τ := by
    intro r
    induction r with
    | zero =>
      intro k τ hk a1 a2
      have : k = 49 := by omega
      subst this
      unfold w_X8_keep_b19
      rw [cl_nI (by omega)]
      exact ⟨fun _ => ⟨in_nI hi, h τ a1 a2⟩, fun c => absurd (by decide) c⟩
    | succ r ih =>
      intro k τ hk a1 a2
      unfold w_X8_keep_b19
      rw [ix49, cl_nI (n := 49 * i + k) (by omega), cl_nI (n := k) (by omega), a1 189 (by decide), nI_1 k]
      refine ⟨fun c => absurd c (nI_ge (a := k) (b := 49) (by omega) (by decide)), fun _ => ⟨in_nI (by omega), in_nI (by omega), ?_⟩⟩
      refine ih (k + 1) _ (by omega) (fun q b => by rw [su_q b]; exact a1 q b) (fun j => ?_)
      by_cases e : j = 49 * i + k
      · subst e; rw [su_s, if_pos (by omega), show 49 * i + k - 49 * i = k by omega]
      · rw [su_k e, a2 j]
        by_cases c : 49 * i ≤ j ∧ j < 49 * i + k
        · rw [if_pos c, if_pos (by omega)]
        · rw [if_neg c, if_neg (by omega)]
  exact ⟨50, loop 49 0 τ0 rfl (fun _ _ => rfl) (fun j => by rw [if_neg (by omega)])⟩
theorem s_mback {i : Nat} (hi : i < 2) {τ0 : St} {P : Int32 → St → Prop} (h : ∀ σ', (∀ q, q ≠ 189 → σ' q = τ0 q) → (∀ j, σ' 189 j = if j < 49 then τ0 190 (49 * i + j) else τ0 189 j) → P 1 (su σ' 185 18 0)) : ∃ f, w_X8_goBack_b31 (nI i) P f 0 τ0 := by
  have loop : ∀ r k τ, k + r = 49 → (∀ q, q ≠ 189 → τ q = τ0 q) → (∀ j, τ 189 j = if j < k then τ0 190 (49 * i + j) else τ0 189 j) → w_X8_goBack_b31 (nI i) P (r + 1) (nI k) τ := by
    intro r
    induction r with
    | zero =>
      intro k τ hk a1 a2
      have : k = 49 := by omega
      subst this
      exact ⟨fun _ => h τ a1 a2, fun c => absurd (by decide) c⟩
    | succ r ih =>
      intro k τ hk a1 a2
      unfold w_X8_goBack_b31
      rw [ix49, cl_nI (n := 49 * i + k) (by omega), cl_nI (n := k) (by omega), a1 190 (by decide), nI_1 k]
      refine ⟨fun c => absurd c (nI_ge (a := k) (b := 49) (by omega) (by decide)), fun _ => ⟨in_nI (by omega), in_nI (by omega), ?_⟩⟩
      refine ih (k + 1) _ (by omega) (fun q b => by rw [su_q b]; exact a1 q b) (fun j => ?_)
      by_cases e : j = k
      · subst e; rw [su_s, if_pos (by omega)]
      · rw [su_k e, a2 j]
        by_cases c : j < k
        · rw [if_pos c, if_pos (by omega)]
        · rw [if_neg c, if_neg (by omega)]
  exact ⟨50, loop 49 0 τ0 rfl (fun _ _ => rfl) (fun j => by rw [if_neg (by omega)])⟩
theorem op_keep {σ : St} (h : Rel σ) (p : Int32) : Two (w_X7_keep p σ) (w_X8_keep p) := by
  have h0 := h.su0 0
  obtain ⟨C, L, I, h⟩ := h
  obtain ⟨a1, a2, a3, a4, a5, a6, a7, a8, a9, a10, a11, a12, a13, a14⟩ := h
  have out : (p < 0 ∨ 1 < p) → w_X8_keep p σ (fun r' σ2 => (-1000000001 : Int32) = r' ∧ Rel σ2) := by
    intro c
    unfold w_X8_keep
    exact s_in (fun c1 c2 => absurd c (by rintro (z | z); exact c1 z; exact c2 z)) (fun _ => ⟨fun z => absurd rfl z, fun _ => ⟨rfl, h0⟩⟩)
  have lt2 : ¬ p < 2 → 1 < p := fun c => by
    rw [Int32.lt_iff_toInt_lt, show (1 : Int32).toInt = 1 by decide]
    rw [Int32.lt_iff_toInt_lt, show (2 : Int32).toInt = 2 by decide] at c
    omega
  unfold Two w_X7_keep
  refine ⟨fun c => out (Or.inl c), fun c1 => ⟨fun c2 => ?_, fun c => out (Or.inr (lt2 c))⟩⟩
  obtain ⟨i, hi, rfl⟩ := i01 c1 c2
  rw [cl_nI (by omega)]
  refine ⟨in_nI hi, s_copy (gX3_imgs hi) ⟨by decide, by decide⟩ (by omega) (fun τ t1 t2 => ⟨in_nI hi, in_nI hi, bS ?_⟩)⟩
  unfold w_X4_forget
  have e1 : vp_nar .boolean 1 = 1 := rfl
  rw [e1]
  generalize hτ2 : su (su (su τ 170 i (τ 160 11)) 169 i 1) 166 2 0 = τ2
  have o2 : ∀ q, q ≠ 166 → q ≠ 169 → q ≠ 170 → τ2 q = τ q := fun q b1 b2 b3 => by rw [← hτ2, su_q b1, su_q b2, su_q b3]
  show w_X8_keep (nI i) τ2 _
  unfold w_X8_keep
  refine s_in (fun _ _ => ⟨fun _ => ?_, fun z => absurd z (by decide)⟩) (fun z => absurd z (by
    rintro (z | z)
    · exact c1 z
    · exact nI_nlt (a := 1) (b := i) (by omega) (by decide) z))
  refine s_mkeep hi (fun ρ0 r1 r2 => ⟨rfl, C, [], fun j => if j = i then C else I j, ?_⟩)
  generalize hρ : su (su ρ0 191 i 1) 185 18 0 = ρ
  have hz0 : ∀ q, q ≠ 166 → q ≠ 169 → q ≠ 170 → q ≠ 185 → q ≠ 190 → q ≠ 191 → ρ q = τ q := fun q b1 b2 b3 b4 b5 b6 => by rw [← hρ, su_q b4, su_q b6, r1 q b5, su_q b4, o2 q b1 b2 b3]
  have hz : ∀ q, (q < 16 ∨ 32 ≤ q) → q ≠ 166 → q ≠ 169 → q ≠ 170 → q ≠ 185 → q ≠ 190 → q ≠ 191 → ρ q = σ q := fun q b0 b1 b2 b3 b4 b5 b6 => by rw [hz0 q b1 b2 b3 b4 b5 b6, t1 q (by omega)]
  have hk : ∀ k, k ≠ 0 → k ≠ 18 → ρ 185 k = σ 185 k := fun k b1 b2 => by rw [← hρ, su_k b2, su_q (by decide), r1 185 (by decide), su_k b1, o2 185 (by decide) (by decide) (by decide), t1 185 (by omega)]
  have i169 : ∀ j, ρ 169 j = if j = i then 1 else σ 169 j := fun j => by rw [← hρ, su_q (by decide), su_q (by decide), r1 169 (by decide), su_q (by decide), ← hτ2, su_q (by decide), su_ap, if_pos rfl, su_q (by decide), t1 169 (by omega)]
  have i170 : ∀ j, ρ 170 j = if j = i then σ 160 11 else σ 170 j := fun j => by rw [← hρ, su_q (by decide), su_q (by decide), r1 170 (by decide), su_q (by decide), ← hτ2, su_q (by decide), su_q (by decide), su_ap, if_pos rfl, t1 160 (by omega), t1 170 (by omega)]
  have i191 : ∀ j, ρ 191 j = if j = i then 1 else σ 191 j := fun j => by rw [← hρ, su_q (by decide), su_ap, if_pos rfl, r1 191 (by decide), su_q (by decide), o2 191 (by decide) (by decide) (by decide), t1 191 (by omega)]
  have i190 : ∀ j, ρ 190 j = if 49 * i ≤ j ∧ j < 49 * i + 49 then σ 189 (j - 49 * i) else σ 190 j := fun j => by rw [← hρ, su_q (by decide), su_q (by decide), r2 j, su_q (by decide), su_q (by decide), o2 189 (by decide) (by decide) (by decide), t1 189 (by omega), o2 190 (by decide) (by decide) (by decide), t1 190 (by omega)]
  have hI : ImX ρ C (fun j => if j = i then C else I j) := by
    intro j hj
    rw [i169, i170, i191]
    dsimp only
    by_cases e : j = i
    · subst e
      rw [if_pos rfl, if_pos rfl, if_pos rfl, if_pos rfl]
      refine Or.inr ⟨rfl, rfl, a1, CC.rf _, (t2 C a1 a2).of (fun q b1 b2 => hz0 q (by omega) (by omega) (by omega) (by omega) (by omega) (by omega)), GM.cp a1.1 a3 (fun k hk => ?_), ?_, a11.2⟩
      · rw [i190, if_pos (by omega), show 49 * j + k - 49 * j = 0 + k by omega]
      · rw [i190, if_pos (by omega), show 49 * j + 48 - 49 * j = 48 by omega]; exact a11.1
    · rw [if_neg e, if_neg e, if_neg e, if_neg e]
      rcases a8 j hj with z | ⟨z1, z2, z3, z4, z5, z6, z7, z8⟩
      · exact Or.inl z
      · refine Or.inr ⟨z1, z2, z3, z4, z5.of (fun q b1 b2 => by rw [hz0 q (by omega) (by omega) (by omega) (by omega) (by omega) (by omega), t1 q (by omega)]), z6.of z3.1 (fun k b1 b2 => by rw [i190, if_neg (by omega)]), ?_, z8⟩
        rw [i190, if_neg (by omega)]; exact z7
  obtain ⟨pl, p2, nx, p3, p4, p5⟩ := a6
  have k166 : ρ 166 = τ2 166 := by rw [← hρ, su_q (by decide), su_q (by decide), r1 166 (by decide), su_q (by decide)]
  exact ⟨a1, a2.of (fun q b1 b2 => hz q (by omega) (by omega) (by omega) (by omega) (by omega) (by omega) (by omega)), a3.of a1.1 (fun k _ _ => by rw [hz 189 (by omega) (by decide) (by decide) (by decide) (by decide) (by decide) (by decide)]), a4.of (hk 7 (by decide) (by decide)) (hk 8 (by decide) (by decide)) (hk 9 (by decide) (by decide)) (hz 188 (by omega) (by decide) (by decide) (by decide) (by decide) (by decide) (by decide)), (fun D hD => by cases hD), ⟨by decide, by rw [k166, ← hτ2]; exact su_s, nx, p3, by rw [k166, ← hτ2, su_k (by decide), su_q (by decide), su_q (by decide), t1 166 (by omega)]; exact p4, fun i D hD => by simp at hD⟩, ⟨by decide, by rw [← hρ]; exact su_s, fun i D hD => by simp at hD⟩, hI, a9.of (by rw [hz 161 (by omega) (by decide) (by decide) (by decide) (by decide) (by decide) (by decide)]) (hk 2 (by decide) (by decide)) (hz 162 (by omega) (by decide) (by decide) (by decide) (by decide) (by decide) (by decide)) (hz 186 (by omega) (by decide) (by decide) (by decide) (by decide) (by decide) (by decide)), (by rw [hz 160 (by omega) (by decide) (by decide) (by decide) (by decide) (by decide) (by decide), hk 6 (by decide) (by decide)]; exact a10), (by unfold SdX; rw [hz 160 (by omega) (by decide) (by decide) (by decide) (by decide) (by decide) (by decide), hz 189 (by omega) (by decide) (by decide) (by decide) (by decide) (by decide) (by decide)]; exact a11), a12.of (by rw [hz 182 (by omega) (by decide) (by decide) (by decide) (by decide) (by decide) (by decide)]) (hk 21 (by decide) (by decide)) (hz 183 (by omega) (by decide) (by decide) (by decide) (by decide) (by decide) (by decide)) (hz 193 (by omega) (by decide) (by decide) (by decide) (by decide) (by decide) (by decide)) (hz 184 (by omega) (by decide) (by decide) (by decide) (by decide) (by decide) (by decide)) (hz 194 (by omega) (by decide) (by decide) (by decide) (by decide) (by decide) (by decide)), a13.of (by rw [hz 176 (by omega) (by decide) (by decide) (by decide) (by decide) (by decide) (by decide)]) (hz 177 (by omega) (by decide) (by decide) (by decide) (by decide) (by decide) (by decide)), a14.of (hz 178 (by omega) (by decide) (by decide) (by decide) (by decide) (by decide) (by decide))⟩
theorem op_goBack {σ : St} (h : Rel σ) (p : Int32) : Two (w_X7_goBack p σ) (w_X8_goBack p) := by
  have h0 := h.su0 0
  obtain ⟨C, L, I, h⟩ := h
  have hr := h
  obtain ⟨a1, a2, a3, a4, a5, a6, a7, a8, a9, a10, a11, a12, a13, a14⟩ := h
  have out : (p < 0 ∨ 1 < p) → w_X8_goBack p σ (fun r' σ2 => (-1000000001 : Int32) = r' ∧ Rel σ2) := by
    intro c
    unfold w_X8_goBack
    exact s_in (fun c1 c2 => absurd c (by rintro (z | z); exact c1 z; exact c2 z)) (fun _ => ⟨fun z => absurd rfl z, fun _ => ⟨rfl, h0⟩⟩)
  have lt2 : ¬ p < 2 → 1 < p := fun c => by
    rw [Int32.lt_iff_toInt_lt, show (1 : Int32).toInt = 1 by decide]
    rw [Int32.lt_iff_toInt_lt, show (2 : Int32).toInt = 2 by decide] at c
    omega
  unfold Two w_X7_goBack
  refine ⟨fun c => out (Or.inl c), fun c1 => ⟨fun c2 => ?_, fun c => out (Or.inr (lt2 c))⟩⟩
  obtain ⟨i, hi, rfl⟩ := i01 c1 c2
  have nin : ¬ (nI i < 0 ∨ 1 < nI i) := by
    rintro (z | z)
    · exact c1 z
    · exact nI_nlt (a := 1) (b := i) (by omega) (by decide) z
  rw [cl_nI (by omega)]
  refine ⟨in_nI hi, fun c => ⟨in_nI hi, ?_⟩, fun c => ?_⟩
  · rcases a8 i hi with z | ⟨z1, z2, z3, z4, z5, z6, z7, z8⟩
    · exact absurd z.1 c
    refine s_copy ⟨by decide, by decide⟩ (gX3_imgs hi) (by omega) (fun τ t1 t2 => ⟨in_nI hi, ?_⟩)
    unfold w_X4_forget w_X7_stirred
    have e170 : τ 170 i = σ 170 i := by rw [t1 170 (by omega)]
    rw [e170]
    show w_X8_goBack (nI i) (su (su (su (su τ 160 11 (σ 170 i)) 166 2 0) 176 1 0) 178 4 0) _
    generalize hτ2 : su (su (su (su τ 160 11 (σ 170 i)) 166 2 0) 176 1 0) 178 4 0 = τ2
    have o2 : ∀ q, q ≠ 160 → q ≠ 166 → q ≠ 176 → q ≠ 178 → τ2 q = τ q := fun q b1 b2 b3 b4 => by rw [← hτ2, su_q b4, su_q b3, su_q b2, su_q b1]
    show w_X8_goBack (nI i) τ2 _
    unfold w_X8_goBack
    refine s_in (fun _ _ => ⟨fun _ => ?_, fun z => absurd z (by decide)⟩) (fun z => absurd z nin)
    have e191 : su τ2 185 0 0 191 i = 1 := by rw [su_q (by decide), o2 191 (by decide) (by decide) (by decide) (by decide), t1 191 (by omega)]; exact z2
    rw [cl_nI (by omega), e191]
    refine ⟨in_nI hi, fun _ => ?_, fun z => absurd z (by decide)⟩
    refine s_mback hi (fun ρ0 r1 r2 => ⟨rfl, I i, [], I, ?_⟩)
    generalize hρ : su ρ0 185 18 0 = ρ
    have hz0 : ∀ q, q ≠ 160 → q ≠ 166 → q ≠ 176 → q ≠ 178 → q ≠ 185 → q ≠ 189 → ρ q = τ q := fun q b1 b2 b3 b4 b5 b6 => by rw [← hρ, su_q b5, r1 q b6, su_q b5, o2 q b1 b2 b3 b4]
    have hz : ∀ q, 8 ≤ q → q ≠ 160 → q ≠ 166 → q ≠ 176 → q ≠ 178 → q ≠ 185 → q ≠ 189 → ρ q = σ q := fun q b0 b1 b2 b3 b4 b5 b6 => by rw [hz0 q b1 b2 b3 b4 b5 b6, t1 q (by omega)]
    have k160 : ρ 160 = τ2 160 := by rw [← hρ, su_q (by decide), r1 160 (by decide), su_q (by decide)]
    have k166 : ρ 166 = τ2 166 := by rw [← hρ, su_q (by decide), r1 166 (by decide), su_q (by decide)]
    have k189 : ∀ j, j < 49 → ρ 189 j = σ 190 (49 * i + j) := fun j hj => by rw [← hρ, su_q (by decide), r2 j, if_pos hj, su_q (by decide), o2 190 (by decide) (by decide) (by decide) (by decide), t1 190 (by omega)]
    obtain ⟨pl, p2, nx, p3, p4, p5⟩ := a6
    refine hr.done z3 z4 ((t2 (I i) z3 z5).of (fun q b1 b2 => hz0 q (by omega) (by omega) (by omega) (by omega) (by omega) (by omega))) (GM.cp z3.1 z6 (fun k hk => by rw [Nat.zero_add, k189 k (by omega)])) (fun D hD => by cases hD) ⟨by decide, ?_, nx, p3, ?_, fun i D hD => by simp at hD⟩ ⟨by decide, by rw [← hρ]; exact su_s, fun i D hD => by simp at hD⟩ ⟨?_, ?_⟩ (fun q hq => hz q (by omega) (by omega) (by omega) (by omega) (by omega) (by omega) (by omega)) ?_ (fun k b1 b2 b3 b4 b5 => by rw [← hρ, su_k b2, r1 185 (by decide), su_k b1, o2 185 (by decide) (by decide) (by decide) (by decide), t1 185 (by omega)]) ?_ ?_
    · rw [k166, ← hτ2, su_q (by decide), su_q (by decide)]; exact su_s
    · rw [k166, ← hτ2, su_q (by decide), su_q (by decide), su_k (by decide), su_q (by decide), t1 166 (by omega)]; exact p4
    · rw [k160, k189 48 (by decide), ← hτ2, su_q (by decide), su_q (by decide), su_q (by decide), su_s]; exact z7
    · rw [k160, ← hτ2, su_q (by decide), su_q (by decide), su_q (by decide), su_s]; exact z8
    · rw [k160, ← hτ2, su_q (by decide), su_q (by decide), su_q (by decide), su_k (by decide), t1 160 (by omega)]
    · rw [← hρ, su_q (by decide), r1 176 (by decide), su_q (by decide), ← hτ2, su_q (by decide), su_s]
    · rw [← hρ, su_q (by decide), r1 178 (by decide), su_q (by decide), ← hτ2, su_s]
  · show w_X8_goBack (nI i) σ _
    unfold w_X8_goBack
    have e191 : su σ 185 0 0 191 i = 0 := by
      rw [su_q (by decide)]
      rcases a8 i hi with z | z
      · exact z.2
      · rw [z.1] at c; exact absurd c (by decide)
    refine s_in (fun _ _ => ⟨fun _ => ?_, fun z => absurd z (by decide)⟩) (fun z => absurd z nin)
    rw [cl_nI (by omega), e191]
    exact ⟨in_nI hi, fun z => absurd rfl z, fun _ => ⟨rfl, h0⟩⟩
