/-! ===== the reference's row of what can be undone ===== -/
theorem GM.cp {σ σ' : St} {c o c' o' : Nat} {C : Cty} (hn : cn C ≤ 9) (h : GM σ c o C) (e : ∀ k, k < 48 → σ' c' (o' + k) = σ c (o + k)) : GM σ' c' o' C := by
  obtain ⟨h1, h2, h3, h4⟩ := h
  refine ⟨fun k hk => ?_, by rw [e 45 (by decide)]; exact h2, by rw [e 46 (by decide)]; exact h3, by rw [e 47 (by decide)]; exact h4⟩
  obtain ⟨b1, b2, b3, b4, b5⟩ := h1 k hk
  rw [Nat.add_assoc o' 9 k, Nat.add_assoc o' 18 k, Nat.add_assoc o' 27 k, Nat.add_assoc o' 36 k, e k (by omega), e (9 + k) (by omega), e (18 + k) (by omega), e (27 + k) (by omega), e (36 + k) (by omega)]
  rw [Nat.add_assoc] at b2 b3 b4 b5
  exact ⟨b1, b2, b3, b4, b5⟩
theorem ix49 (m i : Nat) : (49 : Int32) * nI m + nI i = nI (49 * m + i) := by
  have : (49 : Int32) * nI m = nI (49 * m) := pk_mul 49 m
  rw [this, nI_add]
theorem s_notes47 {τ0 : St} {m : Nat} (hm : m < 16) (h18 : τ0 185 18 = nI m) {P : St → Prop}
    (h : ∀ σ', (∀ q, q ≠ 192 → q ≠ 185 → σ' q = τ0 q) → (∀ k, k ≠ 18 → σ' 185 k = τ0 185 k) → σ' 185 18 = nI (m + 1) → (∀ j, σ' 192 j = if 49 * m ≤ j ∧ j < 49 * m + 49 then τ0 189 (j - 49 * m) else τ0 192 j) → P σ') : w_X8_notes_b45 P τ0 := by
  have loop : ∀ r i τ, i + r = 49 → (∀ q, q ≠ 192 → τ q = τ0 q) → (∀ j, τ 192 j = if 49 * m ≤ j ∧ j < 49 * m + i then τ0 189 (j - 49 * m) else τ0 192 j) → w_X8_notes_b47 P (r + 1) (nI i) τ := by
    intro r
    induction r with
    | zero =>
      intro i τ hi a1 a2
      have : i = 49 := by omega
      subst this
      unfold w_X8_notes_b47
      rw [a1 185 (by decide), h18, nI_1]
      refine ⟨fun _ => h _ (fun q b1 b2 => by rw [su_q b2]; exact a1 q b1) (fun k hk => by rw [su_k hk, a1 185 (by decide)]) su_s (fun j => by rw [su_q (by decide)]; exact a2 j), fun c => absurd (by decide) c⟩
    | succ r ih =>
      intro i τ hi a1 a2
      unfold w_X8_notes_b47
      rw [a1 185 (by decide), h18, ix49, cl_nI (by omega), cl_nI (by omega), a1 189 (by decide), nI_1 i]
      refine ⟨fun c => absurd c (nI_ge (a := i) (b := 49) (by omega) (by decide)), fun _ => ⟨in_nI (by omega), in_nI (by omega), ?_⟩⟩
      refine ih (i + 1) _ (by omega) (fun q b => by rw [su_q b]; exact a1 q b) (fun j => ?_)
      by_cases e : j = 49 * m + i
      · subst e; rw [su_s, if_pos (by omega), show 49 * m + i - 49 * m = i by omega]
      · rw [su_k e, a2 j]
        by_cases c : 49 * m ≤ j ∧ j < 49 * m + i
        · rw [if_pos c, if_pos (by omega)]
        · rw [if_neg c, if_neg (by omega)]
  unfold w_X8_notes_b45
  exact ⟨50, loop 49 0 τ0 rfl (fun _ _ => rfl) (fun j => by rw [if_neg (by omega)])⟩
theorem s_notes {σ : St} {C : Cty} {L : List Cty} (hC : COk C) (hL : ∀ D ∈ L, COk D) (hM : GM σ 189 0 C) (hP : PM σ L) {P : St → Prop}
    (h : ∀ σ', (∀ q, q ≠ 192 → q ≠ 185 → σ' q = σ q) → (∀ k, k ≠ 18 → σ' 185 k = σ 185 k) → PM σ' (C :: L.take 15) → P σ') : w_X8_notes σ P := by
  obtain ⟨hl, h18, hg⟩ := hP
  unfold w_X8_notes
  rw [h18]
  refine ⟨fun c => ?_, fun c => ?_⟩
  · have hlt : L.length < 16 := by
      rcases Nat.lt_or_ge L.length 16 with q | q
      · exact q
      · have : L.length = 16 := by omega
        rw [this] at c; exact absurd rfl c
    refine s_notes47 hlt h18 (fun σ' a1 a2 a3 a4 => h σ' a1 a2 ⟨?_, ?_, fun i D hD => ?_⟩)
    · rw [List.length_cons, List.length_take]; omega
    · rw [a3, List.length_cons, List.length_take, show min 15 L.length = L.length by omega]
    · have hlen : (C :: L.take 15).length = L.length + 1 := by rw [List.length_cons, List.length_take]; omega
      rw [hlen]
      cases i with
      | zero =>
        rw [List.getElem?_cons_zero] at hD
        cases hD
        refine GM.cp hC.1 hM (fun k hk => ?_)
        rw [a4, if_pos (by omega)]; congr 1; omega
      | succ i =>
        rw [List.getElem?_cons_succ, List.getElem?_take] at hD
        split at hD
        · have hi2 : i < L.length := (List.getElem?_eq_some_iff.mp hD).1
          refine GM.cp (hL D (List.mem_of_getElem? hD)).1 (hg i D hD) (fun k hk => ?_)
          have e : L.length + 1 - 1 - (i + 1) = L.length - 1 - i := by omega
          rw [e, a4, if_neg]
          rintro ⟨x1, x2⟩
          have : L.length - 1 - i + 1 ≤ L.length := by omega
          have : 49 * (L.length - 1 - i) + 49 ≤ 49 * L.length := by omega
          omega
        · cases hD
  · have hlen : L.length = 16 := nI_inj (by omega) (by decide) c
    have loop : ∀ r i τ, i + r = 735 → (∀ q, q ≠ 192 → τ q = σ q) → (∀ j, τ 192 j = if j < i then σ 192 (j + 49) else σ 192 j) → w_X8_notes_b11 P (r + 1) (nI i) τ := by
      intro r
      induction r with
      | zero =>
        intro i τ hi a1 a2
        have : i = 735 := by omega
        subst this
        unfold w_X8_notes_b11
        refine ⟨fun _ => ?_, fun c => absurd (by decide) c⟩
        refine s_notes47 (m := 15) (by decide) su_s (fun σ' b1 b2 b3 b4 => h σ' (fun q c1 c2 => by rw [b1 q c1 c2, su_q c2]; exact a1 q c1) (fun k hk => by rw [b2 k hk, su_k hk, a1 185 (by decide)]) ⟨?_, ?_, fun i D hD => ?_⟩)
        · rw [List.length_cons, List.length_take]; omega
        · rw [b3, List.length_cons, List.length_take, hlen]; rfl
        · have hlen2 : (C :: L.take 15).length = 16 := by rw [List.length_cons, List.length_take]; omega
          rw [hlen2]
          cases i with
          | zero =>
            rw [List.getElem?_cons_zero] at hD
            cases hD
            refine GM.cp hC.1 hM (fun k hk => ?_)
            rw [b4, if_pos (by omega), su_q (by decide), a1 189 (by decide), show 49 * (16 - 1 - 0) + k - 49 * 15 = 0 + k by omega]
          | succ i =>
            rw [List.getElem?_cons_succ, List.getElem?_take] at hD
            split at hD
            · rename_i hi15
              refine GM.cp (hL D (List.mem_of_getElem? hD)).1 (hg i D hD) (fun k hk => ?_)
              have e2 : 49 * (L.length - 1 - i) = 49 * (16 - 1 - (i + 1)) + 49 := by omega
              rw [b4, if_neg (by omega), su_q (by decide), a2, if_pos (by omega), e2]
              congr 1; omega
            · cases hD
      | succ r ih =>
        intro i τ hi a1 a2
        unfold w_X8_notes_b11
        have e49 : nI i + (49 : Int32) = nI (i + 49) := nI_add i 49
        rw [e49, cl_nI (by omega), cl_nI (by omega), nI_1]
        refine ⟨fun c => absurd c (nI_ge (a := i) (b := 735) (by omega) (by decide)), fun _ => ⟨in_nI (by omega), in_nI (by omega), ?_⟩⟩
        refine ih (i + 1) _ (by omega) (fun q b => by rw [su_q b]; exact a1 q b) (fun j => ?_)
        by_cases e : j = i
        · subst e; rw [su_s, if_pos (by omega), a2, if_neg (by omega)]
        · rw [su_k e, a2 j]
          by_cases c : j < i
          · rw [if_pos c, if_pos (by omega)]
          · rw [if_neg c, if_neg (by omega)]
    exact ⟨736, loop 735 0 σ rfl (fun _ _ => rfl) (fun j => by rw [if_neg (by omega)])⟩
theorem s_mundo_loop {τ0 : St} {m : Nat} (hm : m < 16) (h18 : τ0 185 18 = nI m) {P : Int32 → St → Prop}
    (h : ∀ σ', (∀ q, q ≠ 189 → σ' q = τ0 q) → (∀ j, σ' 189 j = if j < 48 then τ0 192 (49 * m + j) else τ0 189 j) → P (nI m) σ') : ∃ f, w_X8_undo_b27 P f 0 τ0 := by
  have loop : ∀ r i τ, i + r = 48 → (∀ q, q ≠ 189 → τ q = τ0 q) → (∀ j, τ 189 j = if j < i then τ0 192 (49 * m + j) else τ0 189 j) → w_X8_undo_b27 P (r + 1) (nI i) τ := by
    intro r
    induction r with
    | zero =>
      intro i τ hi a1 a2
      have : i = 48 := by omega
      subst this
      unfold w_X8_undo_b27
      rw [a1 185 (by decide), h18]
      exact ⟨fun _ => h τ a1 a2, fun c => absurd (by decide) c⟩
    | succ r ih =>
      intro i τ hi a1 a2
      unfold w_X8_undo_b27
      rw [a1 185 (by decide), h18, ix49, cl_nI (by omega), cl_nI (by omega), a1 192 (by decide), nI_1 i]
      refine ⟨fun c => absurd c (nI_ge (a := i) (b := 48) (by omega) (by decide)), fun _ => ⟨in_nI (by omega), in_nI (by omega), ?_⟩⟩
      refine ih (i + 1) _ (by omega) (fun q b => by rw [su_q b]; exact a1 q b) (fun j => ?_)
      by_cases e : j = i
      · subst e; rw [su_s, if_pos (by omega)]
      · rw [su_k e, a2 j]
        by_cases c : j < i
        · rw [if_pos c, if_pos (by omega)]
        · rw [if_neg c, if_neg (by omega)]
  exact ⟨49, loop 48 0 τ0 rfl (fun _ _ => rfl) (fun j => by rw [if_neg (by omega)])⟩
