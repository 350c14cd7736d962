/-! ===== the book, the seed ===== -/
theorem op_seed {σ : St} (h : Rel σ) (p : Int32) : Two (w_X7_seed p σ) (w_X8_seed p) := by
  have h0 := h.su0 0
  obtain ⟨C, L, I, h⟩ := h
  obtain ⟨a1, a2, a3, a4, a5, a6, a7, a8, a9, a10, a11, a12, a13, a14⟩ := h
  unfold Two w_X7_seed w_X8_seed
  refine ⟨fun c => ⟨fun _ => ⟨?_, C, L, I, ?_⟩, fun c2 => absurd c c2⟩, fun c => ⟨fun c2 => absurd c2 c, fun _ => ⟨rfl, h0⟩⟩⟩
  · rw [su_q (by decide), su_q (by decide)]; exact a11.1
  · generalize hρ : su (su (su σ 160 11 p) 185 0 0) 189 48 p = ρ
    have hz : ∀ q, q ≠ 160 → q ≠ 185 → q ≠ 189 → ρ q = σ q := fun q b1 b2 b3 => by rw [← hρ, su_q b3, su_q b2, su_q b1]
    have hk : ∀ k, k ≠ 0 → ρ 185 k = σ 185 k := fun k b => by rw [← hρ, su_q (by decide), su_k b, su_q (by decide)]
    have h160 : ∀ k, k ≠ 11 → ρ 160 k = σ 160 k := fun k b => by rw [← hρ, su_q (by decide), su_q (by decide), su_k b]
    have h189 : ∀ k, k ≠ 48 → ρ 189 k = σ 189 k := fun k b => by rw [← hρ, su_k b, su_q (by decide), su_q (by decide)]
    exact ⟨a1, a2.of (fun q b1 b2 => hz q (by omega) (by omega) (by omega)), a3.of a1.1 (fun k _ b => h189 k (by omega)), a4.of (hk 7 (by decide)) (hk 8 (by decide)) (hk 9 (by decide)) (hz 188 (by decide) (by decide) (by decide)), a5, a6.of (by rw [hz 166 (by decide) (by decide) (by decide)]) (by rw [hz 166 (by decide) (by decide) (by decide)]) (fun q b1 b2 => hz q (by omega) (by omega) (by omega)), a7.of (fun D hD => (a5 D hD).1) (hk 18 (by decide)) (hz 192 (by decide) (by decide) (by decide)), a8.of (fun q b1 b2 => hz q (by omega) (by omega) (by omega)) (hz 169 (by decide) (by decide) (by decide)) (hz 170 (by decide) (by decide) (by decide)) (hz 190 (by decide) (by decide) (by decide)) (hz 191 (by decide) (by decide) (by decide)), a9.of (by rw [hz 161 (by decide) (by decide) (by decide)]) (hk 2 (by decide)) (hz 162 (by decide) (by decide) (by decide)) (hz 186 (by decide) (by decide) (by decide)), (by rw [h160 12 (by decide), hk 6 (by decide)]; exact a10), ⟨by rw [← hρ, su_s, su_q (by decide), su_q (by decide), su_s], by rw [← hρ, su_q (by decide), su_q (by decide), su_s]; exact i32len c⟩, a12.of (by rw [hz 182 (by decide) (by decide) (by decide)]) (hk 21 (by decide)) (hz 183 (by decide) (by decide) (by decide)) (hz 193 (by decide) (by decide) (by decide)) (hz 184 (by decide) (by decide) (by decide)) (hz 194 (by decide) (by decide) (by decide)), a13.of (by rw [hz 176 (by decide) (by decide) (by decide)]) (hz 177 (by decide) (by decide) (by decide)), a14.of (hz 178 (by decide) (by decide) (by decide))⟩
theorem op_tear {σ : St} (h : Rel σ) : Two (w_X7_tear σ) w_X8_tear := by
  obtain ⟨C, L, I, h⟩ := h
  obtain ⟨a1, a2, a3, a4, a5, a6, a7, a8, a9, a10, a11, a12, a13, a14⟩ := h
  obtain ⟨m, hm, b1, b2, b3⟩ := a12
  unfold Two w_X7_tear w_X1_clear w_X8_tear
  refine ⟨?_, C, L, I, ?_⟩
  · rw [su_k (by decide), su_q (by decide), b1, b2]
  · generalize hρ : su (su (su σ 182 2 0) 185 0 0) 185 21 0 = ρ
    have hz : ∀ q, q ≠ 182 → q ≠ 185 → ρ q = σ q := fun q b1 b2 => by rw [← hρ, su_q b2, su_q b2, su_q b1]
    have hk : ∀ k, k ≠ 0 → k ≠ 21 → ρ 185 k = σ 185 k := fun k b1 b2 => by rw [← hρ, su_k b2, su_k b1, su_q (by decide)]
    exact ⟨a1, a2.of (fun q b1 b2 => hz q (by omega) (by omega)), a3.of a1.1 (fun k _ _ => by rw [hz 189 (by decide) (by decide)]), a4.of (hk 7 (by decide) (by decide)) (hk 8 (by decide) (by decide)) (hk 9 (by decide) (by decide)) (hz 188 (by decide) (by decide)), a5, a6.of (by rw [hz 166 (by decide) (by decide)]) (by rw [hz 166 (by decide) (by decide)]) (fun q b1 b2 => hz q (by omega) (by omega)), a7.of (fun D hD => (a5 D hD).1) (hk 18 (by decide) (by decide)) (hz 192 (by decide) (by decide)), a8.of (fun q b1 b2 => hz q (by omega) (by omega)) (hz 169 (by decide) (by decide)) (hz 170 (by decide) (by decide)) (hz 190 (by decide) (by decide)) (hz 191 (by decide) (by decide)), a9.of (by rw [hz 161 (by decide) (by decide)]) (hk 2 (by decide) (by decide)) (hz 162 (by decide) (by decide)) (hz 186 (by decide) (by decide)), (by rw [hz 160 (by decide) (by decide), hk 6 (by decide) (by decide)]; exact a10), (by unfold SdX; rw [hz 160 (by decide) (by decide), hz 189 (by decide) (by decide)]; exact a11), ⟨0, by omega, by rw [← hρ, su_q (by decide), su_q (by decide), su_s]; rfl, by rw [← hρ, su_s]; rfl, fun k hk => by omega⟩, a13.of (by rw [hz 176 (by decide) (by decide)]) (hz 177 (by decide) (by decide)), a14.of (hz 178 (by decide) (by decide))⟩
theorem op_write {σ : St} (h : Rel σ) (p s : Int32) (hs : s = 0 ∨ s = 1) : Two (w_X7_write p s σ) (w_X8_write p s) := by
  have h0 := h.su0 0
  obtain ⟨C, L, I, h⟩ := h
  have hr := h
  obtain ⟨a1, a2, a3, a4, a5, a6, a7, a8, a9, a10, a11, a12, a13, a14⟩ := h
  have hn := a1.1
  obtain ⟨m, hm, b1, b2, b3⟩ := a12
  have hm9 : su σ 185 0 0 185 9 = nI (cn C) := by rw [su_k (by decide)]; exact a4.1
  have hnar : vp_nar .boolean s = s := by rcases hs with e | e <;> subst e <;> rfl
  unfold Two w_X7_write
  refine s_has hn a2.2.1 (fun j hj e => ⟨fun c => absurd c (by decide), fun _ => ?_⟩) (fun hno => ⟨fun _ => ?_, fun c => absurd rfl c⟩)
  · subst e
    unfold w_X1_append
    rw [b1, cl_nI (by omega)]
    have e1 : su σ 183 m (nI j) 182 2 = nI m := by rw [su_q (by decide)]; exact b1
    rw [e1, cl_nI (by omega), hnar]
    refine ⟨fun c => ?_, fun c => ?_⟩
    · have hlt : m < 15 := (nI_ltI (b := 15) (by omega) (by decide)).mp c
      refine ⟨in_nI hlt, in_nI hlt, bS ?_⟩
      have e2 : su (su σ 183 m (nI j)) 184 m s 182 2 = nI m := by rw [su_q (by decide)]; exact e1
      rw [e2, nI_1, su_s]
      generalize hτ : su (su (su σ 183 m (nI j)) 184 m s) 182 2 (nI (m + 1)) = τ
      have ho : ∀ q, q ≠ 182 → q ≠ 183 → q ≠ 184 → τ q = σ q := fun q b1 b2 b3 => by rw [← hτ, su_q b1, su_q b3, su_q b2]
      unfold w_X8_write
      have g9 : su τ 185 0 0 185 9 = nI (cn C) := by rw [su_k (by decide), ho 185 (by decide) (by decide) (by decide)]; exact a4.1
      have g21 : su τ 185 0 0 185 21 = nI m := by rw [su_k (by decide), ho 185 (by decide) (by decide) (by decide)]; exact b2
      refine s_isSkittle hn g9 (fun i hi e => ⟨fun _ => ?_, fun c => absurd c (by decide)⟩) (fun z => absurd ⟨j, hj, rfl⟩ z)
      rw [g21, cl_nI (by omega)]
      have g3 : su (su τ 185 0 0) 193 m (nI j) 185 21 = nI m := by rw [su_q (by decide)]; exact g21
      rw [g3, cl_nI (by omega), hnar]
      refine ⟨fun _ => ⟨in_nI hlt, in_nI hlt, bS ?_⟩, fun z => absurd (nI_inj (b := 15) (by omega) (by decide) z) (by omega)⟩
      have g4 : su (su (su τ 185 0 0) 193 m (nI j)) 194 m s 185 21 = nI m := by rw [su_q (by decide)]; exact g3
      rw [g4, nI_1, su_s]
      refine ⟨rfl, C, L, I, ?_⟩
      generalize hρ : su (su (su (su τ 185 0 0) 193 m (nI j)) 194 m s) 185 21 (nI (m + 1)) = ρ
      have hz : ∀ q, q ≠ 182 → q ≠ 183 → q ≠ 184 → q ≠ 185 → q ≠ 193 → q ≠ 194 → ρ q = σ q := fun q b1 b2 b3 b4 b5 b6 => by rw [← hρ, su_q b4, su_q b6, su_q b5, su_q b4, ho q b1 b2 b3]
      have hk : ∀ k, k ≠ 0 → k ≠ 21 → ρ 185 k = σ 185 k := fun k b1 b2 => by rw [← hρ, su_k b2, su_q (by decide), su_q (by decide), su_k b1, ho 185 (by decide) (by decide) (by decide)]
      have k182 : ρ 182 2 = nI (m + 1) := by rw [← hρ, su_q (by decide), su_q (by decide), su_q (by decide), su_q (by decide), ← hτ, su_s]
      have k183 : ∀ k, ρ 183 k = if k = m then nI j else σ 183 k := fun k => by rw [← hρ, su_q (by decide), su_q (by decide), su_q (by decide), su_q (by decide), ← hτ, su_q (by decide), su_q (by decide), su_ap, if_pos rfl]
      have k184 : ∀ k, ρ 184 k = if k = m then s else σ 184 k := fun k => by rw [← hρ, su_q (by decide), su_q (by decide), su_q (by decide), su_q (by decide), ← hτ, su_q (by decide), su_ap, if_pos rfl, su_q (by decide)]
      have k193 : ∀ k, ρ 193 k = if k = m then nI j else σ 193 k := fun k => by rw [← hρ, su_q (by decide), su_q (by decide), su_ap, if_pos rfl, su_q (by decide), ho 193 (by decide) (by decide) (by decide)]
      have k194 : ∀ k, ρ 194 k = if k = m then s else σ 194 k := fun k => by rw [← hρ, su_q (by decide), su_ap, if_pos rfl, su_q (by decide), su_q (by decide), ho 194 (by decide) (by decide) (by decide)]
      have hB : BkX ρ (cn C) := by
        refine ⟨m + 1, by omega, k182, by rw [← hρ, su_s], fun k hk => ?_⟩
        rw [k183, k184, k193, k194]
        by_cases e : k = m
        · rw [if_pos e, if_pos e, if_pos e, if_pos e]; exact ⟨rfl, ⟨j, hj, rfl⟩, rfl, hs⟩
        · rw [if_neg e, if_neg e, if_neg e, if_neg e]; exact b3 k (by omega)
      exact ⟨a1, a2.of (fun q b1 b2 => hz q (by omega) (by omega) (by omega) (by omega) (by omega) (by omega)), a3.of a1.1 (fun k _ _ => by rw [hz 189 (by decide) (by decide) (by decide) (by decide) (by decide) (by decide)]), a4.of (hk 7 (by decide) (by decide)) (hk 8 (by decide) (by decide)) (hk 9 (by decide) (by decide)) (hz 188 (by decide) (by decide) (by decide) (by decide) (by decide) (by decide)), a5, a6.of (by rw [hz 166 (by decide) (by decide) (by decide) (by decide) (by decide) (by decide)]) (by rw [hz 166 (by decide) (by decide) (by decide) (by decide) (by decide) (by decide)]) (fun q b1 b2 => hz q (by omega) (by omega) (by omega) (by omega) (by omega) (by omega)), a7.of (fun D hD => (a5 D hD).1) (hk 18 (by decide) (by decide)) (hz 192 (by decide) (by decide) (by decide) (by decide) (by decide) (by decide)), a8.of (fun q b1 b2 => hz q (by omega) (by omega) (by omega) (by omega) (by omega) (by omega)) (hz 169 (by decide) (by decide) (by decide) (by decide) (by decide) (by decide)) (hz 170 (by decide) (by decide) (by decide) (by decide) (by decide) (by decide)) (hz 190 (by decide) (by decide) (by decide) (by decide) (by decide) (by decide)) (hz 191 (by decide) (by decide) (by decide) (by decide) (by decide) (by decide)), a9.of (by rw [hz 161 (by decide) (by decide) (by decide) (by decide) (by decide) (by decide)]) (hk 2 (by decide) (by decide)) (hz 162 (by decide) (by decide) (by decide) (by decide) (by decide) (by decide)) (hz 186 (by decide) (by decide) (by decide) (by decide) (by decide) (by decide)), (by rw [hz 160 (by decide) (by decide) (by decide) (by decide) (by decide) (by decide), hk 6 (by decide) (by decide)]; exact a10), (by unfold SdX; rw [hz 160 (by decide) (by decide) (by decide) (by decide) (by decide) (by decide), hz 189 (by decide) (by decide) (by decide) (by decide) (by decide) (by decide)]; exact a11), hB, a13.of (by rw [hz 176 (by decide) (by decide) (by decide) (by decide) (by decide) (by decide)]) (hz 177 (by decide) (by decide) (by decide) (by decide) (by decide) (by decide)), a14.of (hz 178 (by decide) (by decide) (by decide) (by decide) (by decide) (by decide))⟩
    · have hmm : m = 15 := by
        have : ¬ m < 15 := fun q => c (nI_lt (b := 15) q (by decide))
        omega
      unfold w_X8_write
      have g21 : su σ 185 0 0 185 21 = nI m := by rw [su_k (by decide)]; exact b2
      refine s_isSkittle hn hm9 (fun i hi e => ⟨fun _ => ?_, fun c => absurd c (by decide)⟩) (fun z => absurd ⟨j, hj, rfl⟩ z)
      rw [g21, hmm]
      exact ⟨fun z => absurd rfl z, fun _ => ⟨rfl, h0⟩⟩
  · unfold w_X8_write
    exact s_isSkittle hn hm9 (fun i hi e => absurd ⟨i, hi, e⟩ hno) (fun _ => ⟨fun c => absurd rfl c, fun _ => ⟨rfl, h0⟩⟩)
def jgF (up : Int32) (sk bk : Nat → Int32) : Nat → Nat → Int32
  | 0, _ => -1
  | m + 1, i => if (if (up >>> (sk i &&& 31)) &&& 1 = 1 then (1 : Int32) else 0) = bk i then jgF up sk bk m (i + 1) else nI i
theorem op_judge {σ : St} (h : Rel σ) : Two (w_X7_judge σ) w_X8_judge := by
  have h0 := h.su0 0
  obtain ⟨C, L, I, h⟩ := h
  obtain ⟨a1, a2, a3, a4, a5, a6, a7, a8, a9, a10, a11, a12, a13, a14⟩ := h
  obtain ⟨m, hm, b1, b2, b3⟩ := a12
  have lx : ∀ (P : Int32 → St → Prop) (r i : Nat), i + r = m → P (jgF (σ 0 9) (σ 183) (σ 184) r i) σ → w_X1_firstWrong_b2 (σ 0 9) P (r + 1) (nI i) σ := by
    intro P r
    induction r with
    | zero =>
      intro i hi hp
      have : i = m := by omega
      subst this
      unfold w_X1_firstWrong_b2
      rw [b1]
      exact ⟨fun _ => hp, fun c => absurd (nI_le (Nat.le_refl _) (by omega)) c⟩
    | succ r ih =>
      intro i hi hp
      unfold jgF at hp
      unfold w_X1_firstWrong_b2 w_X1_firstWrong_b35
      rw [b1, cl_nI (by omega), nI_1]
      refine ⟨fun c => absurd c (nI_ge (by omega) (by omega)), fun _ => ⟨fun c => absurd c (nI_ge (a := i) (b := 15) (by omega) (by decide)), fun _ => ⟨in_nI (by omega), fun c => ⟨in_nI (by omega), fun c2 => ?_, fun c2 => ?_⟩, fun c => ⟨in_nI (by omega), fun c2 => ?_, fun c2 => ?_⟩⟩⟩⟩
      · rw [if_neg c, if_pos c2] at hp; exact ih (i + 1) (by omega) hp
      · rw [if_neg c, if_neg c2] at hp; exact hp
      · rw [if_pos c, if_pos c2] at hp; exact ih (i + 1) (by omega) hp
      · rw [if_pos c, if_neg c2] at hp; exact hp
  have lm : ∀ (P : Int32 → St → Prop) (τ : St), τ 185 21 = nI m → τ 189 45 = σ 0 9 → (∀ k, k < m → τ 193 k = σ 183 k ∧ τ 194 k = σ 184 k) → ∀ (r i : Nat), i + r = m → P (jgF (σ 0 9) (σ 183) (σ 184) r i) τ → w_X8_judge_b7 P (r + 1) (nI i) τ := by
    intro P τ g1 g2 g3 r
    induction r with
    | zero =>
      intro i hi hp
      have : i = m := by omega
      subst this
      unfold w_X8_judge_b7
      rw [g1]
      exact ⟨fun _ => hp, fun c => absurd (nI_le (Nat.le_refl _) (by omega)) c⟩
    | succ r ih =>
      intro i hi hp
      obtain ⟨g4, g5⟩ := g3 i (by omega)
      unfold jgF at hp
      unfold w_X8_judge_b7
      rw [g1, cl_nI (by omega), g2, g4, nI_1]
      refine ⟨fun c => absurd c (nI_ge (by omega) (by omega)), fun _ => ⟨in_nI (by omega), s_mhas ⟨in_nI (by omega), ?_⟩⟩⟩
      rw [g5]
      refine ⟨fun c => ?_, fun c => ?_⟩
      · rw [if_pos c] at hp; exact ih (i + 1) (by omega) hp
      · rw [if_neg c] at hp; exact hp
  unfold Two w_X7_judge
  refine ⟨m + 1, lx _ m 0 (by omega) ?_⟩
  unfold w_X8_judge
  refine ⟨m + 1, lm _ _ (by rw [su_k (by decide)]; exact b2) (by rw [su_q (by decide), a3.z.2.1]; exact a2.2.2.1.symm) (fun k hk => ?_) m 0 (by omega) ⟨rfl, h0⟩⟩
  obtain ⟨c1, c2, c3, c4⟩ := b3 k hk
  rw [su_q (by decide), su_q (by decide)]
  exact ⟨c1.symm, c3.symm⟩
