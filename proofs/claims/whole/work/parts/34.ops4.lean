/-! ===== lift, chip, replace, change ===== -/
theorem s_notesR {σ τ2 : St} {C : Cty} {L : List Cty} {I : Nat → Cty} (h : RelC σ C L I) (ht : ∀ q, 182 ≤ q → τ2 q = σ q) {P : St → Prop}
    (hp : ∀ ρ, (∀ q, q ≠ 192 → q ≠ 185 → ρ q = τ2 q) → (∀ k, k ≠ 0 → k ≠ 18 → ρ 185 k = σ 185 k) → GM ρ 189 0 C → MG ρ C → PM ρ (C :: L.take 15) → P ρ) : w_X8_notes (su τ2 185 0 0) P := by
  have hn := h.1.1
  have ho3 : ∀ q, q ≠ 185 → su τ2 185 0 0 q = τ2 q := fun q b1 => su_q b1
  have hk3 : ∀ k, k ≠ 0 → su τ2 185 0 0 185 k = σ 185 k := fun k b => by rw [su_k b, ht 185 (by decide)]
  have hM3 : GM (su τ2 185 0 0) 189 0 C := h.2.2.1.of hn (fun k _ _ => by rw [ho3 189 (by decide), ht 189 (by decide)])
  have hP3 : PM (su τ2 185 0 0) L := h.2.2.2.2.2.2.1.of (fun D hD => (h.2.2.2.2.1 D hD).1) (hk3 18 (by decide)) (by rw [ho3 192 (by decide), ht 192 (by decide)])
  refine s_notes h.1 (fun D hD => (h.2.2.2.2.1 D hD).1) hM3 hP3 (fun ρ r1 r2 r3 => hp ρ (fun q b1 b2 => by rw [r1 q b1 b2, ho3 q b2]) (fun k b1 b2 => by rw [r2 k b2, hk3 k b1]) ?_ ?_ r3)
  · exact hM3.of hn (fun k _ _ => by rw [r1 189 (by decide) (by decide)])
  · exact h.2.2.2.1.of (by rw [r2 7 (by decide), hk3 7 (by decide)]) (by rw [r2 8 (by decide), hk3 8 (by decide)]) (by rw [r2 9 (by decide), hk3 9 (by decide)]) (by rw [r1 188 (by decide) (by decide), ho3 188 (by decide), ht 188 (by decide)])
/-- one number of one skittle becomes another -/
def setC (C : Cty) (i k : Nat) (v : Int32) : Cty := (cn C, cf C, fun i' k' => if i' = i ∧ k' = k then v else cd C i' k', cu C, ct C, co C)
theorem cn_set (C : Cty) (i k : Nat) (v : Int32) : cn (setC C i k v) = cn C := rfl
theorem cd_set (C : Cty) (i k : Nat) (v : Int32) (i' k' : Nat) : cd (setC C i k v) i' k' = if i' = i ∧ k' = k then v else cd C i' k' := rfl
def upC (C : Cty) (u : Int32) : Cty := (cn C, cf C, cd C, u, ct C, co C)
theorem GX.set {σ : St} {C : Cty} (h : GX σ 0 C) {i k : Nat} (h1 : 1 ≤ i) (h2 : i ≤ 6) (h4 : i ≠ 4) (v : Int32) : GX (su σ i k v) 0 (setC C i k v) := by
  obtain ⟨g1, g2, g3, g4, g5, g6, g7⟩ := h
  refine ⟨by rw [su_q (by omega)]; exact g1, by rw [su_q (by omega)]; exact g2, by rw [su_q (by omega)]; exact g3, by rw [su_q (by omega)]; exact g4, by rw [su_q (by omega)]; exact g5, fun j m b1 b2 b3 => ?_, fun p hp => ?_⟩
  · have b3' : m < cn C := b3
    rw [Nat.zero_add, su_ap]
    show _ = if j = i ∧ m = k then v else cd C j m
    have e := g6 j m b1 b2 b3'
    rw [Nat.zero_add] at e
    by_cases c : j = i
    · by_cases c2 : m = k
      · rw [if_pos c, if_pos c2, if_pos ⟨c, c2⟩]
      · rw [if_pos c, if_neg c2, if_neg (fun z => c2 z.2)]; exact e
    · rw [if_neg c, if_neg (fun z => c z.1)]; exact e
  · rw [su_q (by omega), g7 p hp]
    unfold onC
    show onF (cd C 4) (cn C) p = onF (fun k' => if 4 = i ∧ k' = k then v else cd C 4 k') (cn C) p
    congr 1
    funext k'
    rw [if_neg (fun z => h4 z.1.symm)]
theorem GX.up {σ : St} {C : Cty} (h : GX σ 0 C) (u : Int32) : GX (su σ 0 9 u) 0 (upC C u) := by
  obtain ⟨g1, g2, g3, g4, g5, g6, g7⟩ := h
  exact ⟨by rw [su_k (by decide)]; exact g1, by rw [su_k (by decide)]; exact g2, su_s, by rw [su_k (by decide)]; exact g4, by rw [su_k (by decide)]; exact g5, fun i k b1 b2 b3 => by rw [su_q (by omega)]; exact g6 i k b1 b2 b3, fun p hp => by rw [su_q (by omega)]; exact g7 p hp⟩
theorem GM.up {σ : St} {C : Cty} (hn : cn C ≤ 9) (h : GM σ 189 0 C) (u : Int32) : GM (su σ 189 45 u) 189 0 (upC C u) := by
  obtain ⟨m1, m2, m3, m4⟩ := h.z
  exact GM.of_z ⟨fun k hk => by
    have hk' : k < cn C := hk
    rw [su_k (by omega), su_k (by omega), su_k (by omega), su_k (by omega), su_k (by omega)]; exact m1 k hk', su_s, by rw [su_k (by decide)]; exact m3, by rw [su_k (by decide)]; exact m4⟩
theorem GM.set1 {σ : St} {C : Cty} (hn : cn C ≤ 9) (h : GM σ 189 0 C) {k : Nat} (hk : k < cn C) (v : Int32) : GM (su σ 189 (27 + k) v) 189 0 (setC C 1 k v) := by
  obtain ⟨m1, m2, m3, m4⟩ := h.z
  refine GM.of_z ⟨fun j hj => ?_, by rw [su_k (by omega)]; exact m2, by rw [su_k (by omega)]; exact m3, by rw [su_k (by omega)]; exact m4⟩
  have hj' : j < cn C := hj
  obtain ⟨b1, b2, b3, b4, b5⟩ := m1 j hj'
  refine ⟨by rw [su_k (by omega)]; simpa [cd_set] using b1, by rw [su_k (by omega)]; simpa [cd_set] using b2, by rw [su_k (by omega)]; simpa [cd_set] using b3, ?_, by rw [su_k (by omega)]; simpa [cd_set] using b5⟩
  by_cases e : j = k
  · subst e; rw [su_s]; simp [cd_set]
  · rw [su_k (by omega)]; simpa [cd_set, e] using b4
theorem GM.set3 {σ : St} {C : Cty} (hn : cn C ≤ 9) (h : GM σ 189 0 C) {k : Nat} (hk : k < cn C) (v : Int32) : GM (su σ 189 (36 + k) v) 189 0 (setC C 3 k v) := by
  obtain ⟨m1, m2, m3, m4⟩ := h.z
  refine GM.of_z ⟨fun j hj => ?_, by rw [su_k (by omega)]; exact m2, by rw [su_k (by omega)]; exact m3, by rw [su_k (by omega)]; exact m4⟩
  have hj' : j < cn C := hj
  obtain ⟨b1, b2, b3, b4, b5⟩ := m1 j hj'
  refine ⟨by rw [su_k (by omega)]; simpa [cd_set] using b1, by rw [su_k (by omega)]; simpa [cd_set] using b2, by rw [su_k (by omega)]; simpa [cd_set] using b3, by rw [su_k (by omega)]; simpa [cd_set] using b4, ?_⟩
  by_cases e : j = k
  · subst e; rw [su_s]; simp [cd_set]
  · rw [su_k (by omega)]; simpa [cd_set, e] using b5
theorem setC_ok1 {C : Cty} (h : COk C) {k : Nat} : COk (setC C 1 k 3) := by
  obtain ⟨h1, h2, h3, h4, h5⟩ := h
  refine ⟨h1, fun j hj => ?_, fun i j hi hj e => h3 i j hi hj (by simpa [cd_set] using e), h4, h5⟩
  obtain ⟨b1, b2, b3, b4, b5⟩ := h2 j hj
  refine ⟨?_, by simpa [cd_set] using b2, by simpa [cd_set] using b3, by simpa [cd_set] using b4, by simpa [cd_set, cn_set] using b5⟩
  by_cases e : j = k
  · exact ⟨3, by omega, by simp [cd_set, e]; rfl⟩
  · simpa [cd_set, e] using b1
theorem setC_ok3 {C : Cty} (h : COk C) {k a : Nat} (ha : a ≤ 9) : COk (setC C 3 k (nI a)) := by
  obtain ⟨h1, h2, h3, h4, h5⟩ := h
  refine ⟨h1, fun j hj => ?_, fun i j hi hj e => h3 i j hi hj (by simpa [cd_set] using e), h4, h5⟩
  obtain ⟨b1, b2, b3, b4, b5⟩ := h2 j hj
  refine ⟨by simpa [cd_set] using b1, by simpa [cd_set] using b2, ?_, by simpa [cd_set] using b4, by simpa [cd_set, cn_set] using b5⟩
  by_cases e : j = k
  · exact ⟨a, ha, by simp [cd_set, e]⟩
  · simpa [cd_set, e] using b3
theorem setC_cc {C : Cty} {i k : Nat} (hi : i ≠ 2) (v : Int32) : CC C (setC C i k v) := ⟨rfl, rfl, fun j hj => by
  show (if 2 = i ∧ j = k then v else cd C 2 j) = cd C 2 j
  rw [if_neg (fun z => hi z.1.symm)]⟩
theorem pow_nI : ∀ k : Fin 9, ((1 : Int32) <<< (nI k.val &&& 31)) = nI (2 ^ k.val) := by decide +kernel
theorem or_nI (a b : Nat) : nI a ||| nI b = nI (a ||| b) := by
  apply Int32.toBitVec_inj.1
  show BitVec.ofNat 32 a ||| BitVec.ofNat 32 b = BitVec.ofNat 32 (a ||| b)
  apply BitVec.eq_of_getLsbD_eq
  intro i hi
  simp [hi]
theorem op_lift {σ : St} (h : Rel σ) (p : Int32) : Two (w_X7_lift p σ) (w_X8_lift p) := by
  have h0 := h.su0 0
  obtain ⟨C, L, I, h⟩ := h
  have hn := h.1.1
  obtain ⟨u, hu, hu2, eu⟩ := h.1.up
  have hG := h.2.1
  have hm9 : su σ 185 0 0 185 9 = nI (cn C) := by rw [su_k (by decide)]; exact h.2.2.2.1.1
  have h45 : su σ 185 0 0 189 45 = cu C := by rw [su_q (by decide)]; exact h.2.2.1.z.2.1
  unfold Two w_X7_lift
  refine s_has hn hG.2.1 (fun j hj e => ⟨fun _ => ?_, fun z => absurd z (by decide)⟩) (fun hno => ⟨fun z => absurd rfl z, fun _ => ?_⟩)
  · subst e
    unfold w_X3_stands
    refine s_has hn hG.2.1 (fun i hi e => ?_) (fun z => absurd ⟨j, hj, rfl⟩ z)
    rw [hG.2.2.1]
    refine ⟨fun z => absurd z (by decide), fun _ => ⟨fun c => ⟨fun _ => ?_, fun z => absurd rfl z⟩, fun c => ⟨fun z => absurd z (by decide), fun _ => ?_⟩⟩⟩
    · refine s_remember h (fun τ t1 t2 t3 t4 => ?_)
      have hGτ : GX τ 0 C := hG.of (fun q b1 b2 => t1 q (by omega) (by omega) (by omega) (by omega))
      have ev : cu C ||| ((1 : Int32) <<< (nI j &&& 31)) = nI (u ||| 2 ^ j) := by rw [eu, pow_nI ⟨j, by omega⟩, or_nI]
      have hv : u ||| 2 ^ j < 2 ^ cn C := Nat.or_lt_two_pow hu2 (Nat.pow_lt_pow_right (by decide) hj)
      have hv9 : u ||| 2 ^ j < 512 := by
        have : (2 : Nat) ^ cn C ≤ 2 ^ 9 := Nat.pow_le_pow_right (by decide) hn
        omega
      rw [hGτ.2.2.1, su_s, ev]
      refine s_bitc hv9 ?_
      have hGs := hGτ.up (nI (u ||| 2 ^ j))
      generalize hτ2 : su τ 0 9 (nI (u ||| 2 ^ j)) = τ2 at hGs ⊢
      have o2 : ∀ q, q ≠ 0 → τ2 q = τ q := fun q b => by rw [← hτ2, su_q b]
      show w_X8_lift (nI j) τ2 _
      unfold w_X8_lift
      have g9 : su τ2 185 0 0 185 9 = nI (cn C) := by rw [su_k (by decide), o2 185 (by decide), t1 185 (by omega) (by decide) (by decide) (by decide)]; exact h.2.2.2.1.1
      have g45 : su τ2 185 0 0 189 45 = cu C := by rw [su_q (by decide), o2 189 (by decide), t1 189 (by omega) (by decide) (by decide) (by decide)]; exact h.2.2.1.z.2.1
      refine s_isSkittle hn g9 (fun i hi e => ⟨fun _ => ?_, fun z => absurd z (by decide)⟩) (fun z => absurd ⟨j, hj, rfl⟩ z)
      rw [g45]
      refine s_mhas ?_
      rw [if_neg c]
      refine ⟨fun _ => ?_, fun z => absurd rfl z⟩
      refine s_notesR h (fun q b => by rw [o2 q (by omega), t1 q (by omega) (by omega) (by omega) (by omega)]) (fun ρ r1 r2 r3 r4 r5 => ?_)
      rw [r3.z.2.1, su_s, ev]
      refine s_ones ⟨rfl, upC C (nI (u ||| 2 ^ j)), C :: L.take 15, I, ?_⟩
      refine RelC.fin (τ := τ2) h ?_ ⟨rfl, rfl, fun _ _ => rfl⟩ hGs (r3.up hn _) (t4.of (by rw [o2 166 (by decide)]) (by rw [o2 166 (by decide)]) (fun q b1 b2 => o2 q (by omega))) (r5.of (fun D hD => (h.past D hD).1) (by rw [su_q (by decide)]) (by rw [su_q (by decide)])) (fun q hq => by rw [o2 q (by omega), t1 q (by omega) (by omega) (by omega) (by omega)]) (fun q hq => by rw [su_q (by omega), r1 q (by omega) (by omega)]) (by rw [su_k (by decide), r1 189 (by decide) (by decide), o2 189 (by decide), t1 189 (by omega) (by decide) (by decide) (by decide)]) (fun k b1 b2 b3 b4 b5 => by rw [su_q (by decide), r2 k b1 b2]) (by rw [o2 176 (by decide)]; exact t2) (by rw [o2 178 (by decide)]; exact t3)
      obtain ⟨k1, k2, k3, k4, k5⟩ := h.1
      exact ⟨k1, k2, k3, ⟨_, hv, rfl⟩, k5⟩
    · show w_X8_lift (nI j) σ _
      unfold w_X8_lift
      refine s_isSkittle hn hm9 (fun i hi e => ⟨fun _ => ?_, fun z => absurd z (by decide)⟩) (fun z => absurd ⟨j, hj, rfl⟩ z)
      rw [h45]
      refine s_mhas ?_
      rw [if_pos c]
      exact ⟨fun z => absurd z (by decide), fun _ => ⟨rfl, h0⟩⟩
  · show w_X8_lift p σ _
    unfold w_X8_lift
    exact s_isSkittle hn hm9 (fun i hi e => absurd ⟨i, hi, e⟩ hno) (fun _ => ⟨fun z => absurd rfl z, fun _ => ⟨rfl, h0⟩⟩)
theorem op_chip {σ : St} (h : Rel σ) (p v : Int32) : Two (w_X7_chip p v σ) (w_X8_chip p v) := by
  have h0 := h.su0 0
  obtain ⟨C, L, I, h⟩ := h
  have hn := h.1.1
  have hG := h.2.1
  have hm9 : su σ 185 0 0 185 9 = nI (cn C) := by rw [su_k (by decide)]; exact h.2.2.2.1.1
  unfold Two w_X7_chip
  refine s_has hn hG.2.1 (fun j hj e => ⟨fun _ => ?_, fun z => absurd z (by decide)⟩) (fun hno => ⟨fun z => absurd rfl z, fun _ => ?_⟩)
  · subst e
    have out : (v < 0 ∨ 9 < v) → w_X8_chip (nI j) v σ (fun r' σ2 => (-1000000002 : Int32) = r' ∧ Rel σ2) := by
      intro c
      unfold w_X8_chip
      exact s_isSkittle hn hm9 (fun i hi e => ⟨fun _ => s_in (fun c1 c2 => absurd c (by rintro (z | z); exact c1 z; exact c2 z)) (fun _ => ⟨fun z => absurd rfl z, fun _ => ⟨rfl, h0⟩⟩), fun z => absurd z (by decide)⟩) (fun z => absurd ⟨j, hj, rfl⟩ z)
    refine ⟨fun c => out (Or.inl c), fun c1 => ⟨fun c2 => ?_, fun c => out (Or.inr (Int32.not_le.mp c))⟩⟩
    obtain ⟨a, ha, rfl⟩ := nI_of2 (M := 9) (n := 9) (by decide) c1 c2
    refine s_remember h (fun τ t1 t2 t3 t4 => ?_)
    have hGτ : GX τ 0 C := hG.of (fun q b1 b2 => t1 q (by omega) (by omega) (by omega) (by omega))
    rw [cl_nI (by omega)]
    refine ⟨in_nI (by omega), in_nI (by omega), ?_⟩
    have e3 : τ 3 j = cd C 3 j := hGτ.2.2.2.2.2.1 3 j (by decide) (by decide) hj
    rw [e3]
    have hGs := hGτ.set (i := 3) (k := j) (by decide) (by decide) (by decide) (nI a)
    generalize hτ2 : su τ 3 j (nI a) = τ2 at hGs ⊢
    have o2 : ∀ q, q ≠ 3 → τ2 q = τ q := fun q b => by rw [← hτ2, su_q b]
    show w_X8_chip (nI j) (nI a) τ2 _
    unfold w_X8_chip
    have g9 : su τ2 185 0 0 185 9 = nI (cn C) := by rw [su_k (by decide), o2 185 (by decide), t1 185 (by omega) (by decide) (by decide) (by decide)]; exact h.2.2.2.1.1
    refine s_isSkittle hn g9 (fun i hi e => ⟨fun _ => ?_, fun z => absurd z (by decide)⟩) (fun z => absurd ⟨j, hj, rfl⟩ z)
    refine s_in (fun _ _ => ⟨fun _ => ?_, fun z => absurd z (by decide)⟩) (fun z => absurd z (by rintro (z | z); exact c1 z; exact absurd c2 (Int32.not_le.mpr z)))
    refine s_notesR h (fun q b => by rw [o2 q (by omega), t1 q (by omega) (by omega) (by omega) (by omega)]) (fun ρ r1 r2 r3 r4 r5 => ?_)
    have a36 : (36 : Int32) + nI j = nI (36 + j) := nI_add 36 j
    rw [a36, cl_nI (by omega)]
    refine ⟨in_nI (by omega), in_nI (by omega), (r3.z.1 j hj).2.2.2.2.symm, setC C 3 j (nI a), C :: L.take 15, I, ?_⟩
    exact RelC.fin (τ := τ2) h (setC_ok3 h.1 ha) (setC_cc (by decide) _) hGs (r3.set3 hn hj _) (t4.of (by rw [o2 166 (by decide)]) (by rw [o2 166 (by decide)]) (fun q b1 b2 => o2 q (by omega))) (r5.of (fun D hD => (h.past D hD).1) (by rw [su_q (by decide)]) (by rw [su_q (by decide)])) (fun q hq => by rw [o2 q (by omega), t1 q (by omega) (by omega) (by omega) (by omega)]) (fun q hq => by rw [su_q (by omega), r1 q (by omega) (by omega)]) (by rw [su_k (by omega), r1 189 (by decide) (by decide), o2 189 (by decide), t1 189 (by omega) (by decide) (by decide) (by decide)]) (fun k b1 b2 b3 b4 b5 => by rw [su_q (by decide), r2 k b1 b2]) (by rw [o2 176 (by decide)]; exact t2) (by rw [o2 178 (by decide)]; exact t3)
  · show w_X8_chip p v σ _
    unfold w_X8_chip
    exact s_isSkittle hn hm9 (fun i hi e => absurd ⟨i, hi, e⟩ hno) (fun _ => ⟨fun z => absurd rfl z, fun _ => ⟨rfl, h0⟩⟩)
theorem op_replace {σ : St} (h : Rel σ) (p : Int32) : Two (w_X7_replace p σ) (w_X8_replace p) := by
  have h0 := h.su0 0
  obtain ⟨C, L, I, h⟩ := h
  have hn := h.1.1
  have hG := h.2.1
  have hm9 : su σ 185 0 0 185 9 = nI (cn C) := by rw [su_k (by decide)]; exact h.2.2.2.1.1
  unfold Two w_X7_replace
  refine s_has hn hG.2.1 (fun j hj e => ⟨fun _ => ?_, fun z => absurd z (by decide)⟩) (fun hno => ⟨fun z => absurd rfl z, fun _ => ?_⟩)
  · subst e
    have e1 : σ 1 j = cd C 1 j := hG.2.2.2.2.2.1 1 j (by decide) (by decide) hj
    have a27 : (27 : Int32) + nI j = nI (27 + j) := nI_add 27 j
    rw [cl_nI (by omega), e1]
    refine ⟨in_nI (by omega), fun c => ?_, fun c => ?_⟩
    · refine s_remember h (fun τ t1 t2 t3 t4 => ?_)
      have hGτ : GX τ 0 C := hG.of (fun q b1 b2 => t1 q (by omega) (by omega) (by omega) (by omega))
      refine ⟨in_nI (by omega), ?_⟩
      have hGs := hGτ.set (i := 1) (k := j) (by decide) (by decide) (by decide) 3
      generalize hτ2 : su τ 1 j 3 = τ2 at hGs ⊢
      have o2 : ∀ q, q ≠ 1 → τ2 q = τ q := fun q b => by rw [← hτ2, su_q b]
      show w_X8_replace (nI j) τ2 _
      unfold w_X8_replace
      have g9 : su τ2 185 0 0 185 9 = nI (cn C) := by rw [su_k (by decide), o2 185 (by decide), t1 185 (by omega) (by decide) (by decide) (by decide)]; exact h.2.2.2.1.1
      have g27 : su τ2 185 0 0 189 (27 + j) = cd C 1 j := by rw [su_q (by decide), o2 189 (by decide), t1 189 (by omega) (by decide) (by decide) (by decide)]; exact (h.2.2.1.z.1 j hj).2.2.2.1
      refine s_isSkittle hn g9 (fun i hi e => ⟨fun _ => ?_, fun z => absurd z (by decide)⟩) (fun z => absurd ⟨j, hj, rfl⟩ z)
      rw [a27, cl_nI (by omega), g27]
      refine ⟨in_nI (by omega), fun _ => ?_, fun z => absurd z c⟩
      refine s_notesR h (fun q b => by rw [o2 q (by omega), t1 q (by omega) (by omega) (by omega) (by omega)]) (fun ρ r1 r2 r3 r4 r5 => ?_)
      refine ⟨in_nI (by omega), rfl, setC C 1 j 3, C :: L.take 15, I, ?_⟩
      exact RelC.fin (τ := τ2) h (setC_ok1 h.1) (setC_cc (by decide) _) hGs (r3.set1 hn hj _) (t4.of (by rw [o2 166 (by decide)]) (by rw [o2 166 (by decide)]) (fun q b1 b2 => o2 q (by omega))) (r5.of (fun D hD => (h.past D hD).1) (by rw [su_q (by decide)]) (by rw [su_q (by decide)])) (fun q hq => by rw [o2 q (by omega), t1 q (by omega) (by omega) (by omega) (by omega)]) (fun q hq => by rw [su_q (by omega), r1 q (by omega) (by omega)]) (by rw [su_k (by omega), r1 189 (by decide) (by decide), o2 189 (by decide), t1 189 (by omega) (by decide) (by decide) (by decide)]) (fun k b1 b2 b3 b4 b5 => by rw [su_q (by decide), r2 k b1 b2]) (by rw [o2 176 (by decide)]; exact t2) (by rw [o2 178 (by decide)]; exact t3)
    · show w_X8_replace (nI j) σ _
      unfold w_X8_replace
      have g27 : su σ 185 0 0 189 (27 + j) = cd C 1 j := by rw [su_q (by decide)]; exact (h.2.2.1.z.1 j hj).2.2.2.1
      refine s_isSkittle hn hm9 (fun i hi e => ⟨fun _ => ?_, fun z => absurd z (by decide)⟩) (fun z => absurd ⟨j, hj, rfl⟩ z)
      rw [a27, cl_nI (by omega), g27]
      exact ⟨in_nI (by omega), fun z => absurd c z, fun _ => ⟨rfl, h0⟩⟩
  · show w_X8_replace p σ _
    unfold w_X8_replace
    exact s_isSkittle hn hm9 (fun i hi e => absurd ⟨i, hi, e⟩ hno) (fun _ => ⟨fun z => absurd rfl z, fun _ => ⟨rfl, h0⟩⟩)
theorem swC_cc {C : Cty} {p q : Nat} : CC C (swC C p q) := ⟨rfl, rfl, fun _ _ => rfl⟩
theorem op_change {σ : St} (h : Rel σ) (p q : Int32) : Two (w_X7_change p q σ) (w_X8_change p q) := by
  have h0 := h.su0 0
  obtain ⟨C, L, I, h⟩ := h
  have hn := h.1.1
  have hG := h.2.1
  unfold Two w_X7_change
  refine s_xPlate (fun i hi e => ⟨fun z => absurd z (by decide), fun _ => ?_⟩) (fun hno => ⟨fun _ => ?_, fun z => absurd rfl z⟩)
  · subst e
    refine s_xPlate (fun j hj e => ⟨fun z => absurd z (by decide), fun _ => ⟨fun c => ?_, fun c => ?_⟩⟩) (fun hno => ⟨fun _ => ?_, fun z => absurd rfl z⟩)
    · subst e
      refine s_remember h (fun τ t1 t2 t3 t4 => ?_)
      have hGτ : GX τ 0 C := hG.of (fun q b1 b2 => t1 q (by omega) (by omega) (by omega) (by omega))
      refine s_swap ⟨by decide, by decide⟩ h.1 hGτ hi hj (fun τ2 o2 hGs => ⟨in_nI hi, ?_⟩)
      show w_X8_change (nI i) (nI j) τ2 _
      unfold w_X8_change
      refine s_mPlate (fun i' hi' e => ⟨fun z => absurd z (by decide), fun _ => s_mPlate (fun j' hj' e => ⟨fun z => absurd z (by decide), fun _ => ⟨fun _ => ?_, fun z => absurd z c⟩⟩) (fun z => absurd ⟨j, hj, rfl⟩ z)⟩) (fun z => absurd ⟨i, hi, rfl⟩ z)
      refine s_notesR h (fun q b => by rw [o2 q (by omega) (by omega), t1 q (by omega) (by omega) (by omega) (by omega)]) (fun ρ r1 r2 r3 r4 r5 => ?_)
      refine s_changes h.1 r3 r4 hi hj (fun ρ2 q1 q2 q3 => ?_)
      have r4' : MG ρ2 (swC C i j) := (r4.of (by rw [q1 185 (by decide)]) (by rw [q1 185 (by decide)]) (by rw [q1 185 (by decide)]) (q1 188 (by decide))).cc swC_cc
      refine s_whoOn (swC_ok h.1 hi hj) q3 r4' ⟨?_, swC C i j, C :: L.take 15, I, ?_⟩
      · rw [cl_nI (by omega)]; exact hGs.2.2.2.2.2.2 i hi
      · exact RelC.fin (τ := τ2) h (swC_ok h.1 hi hj) swC_cc hGs q3 (t4.of (by rw [o2 166 (by decide) (by decide)]) (by rw [o2 166 (by decide) (by decide)]) (fun q b1 b2 => o2 q (by omega) (by omega))) (r5.of (fun D hD => (h.past D hD).1) (by rw [q1 185 (by decide)]) (q1 192 (by decide))) (fun q hq => by rw [o2 q (by omega) (by omega), t1 q (by omega) (by omega) (by omega) (by omega)]) (fun q hq => by rw [q1 q (by omega), r1 q (by omega) (by omega)]) (by rw [q2 48 (by decide), r1 189 (by decide) (by decide), o2 189 (by decide) (by decide), t1 189 (by omega) (by decide) (by decide) (by decide)]) (fun k b1 b2 b3 b4 b5 => by rw [q1 185 (by decide), r2 k b1 b2]) (by rw [o2 176 (by decide) (by decide)]; exact t2) (by rw [o2 178 (by decide) (by decide)]; exact t3)
    · show w_X8_change (nI i) q σ _
      unfold w_X8_change
      exact s_mPlate (fun i' hi' e => ⟨fun z => absurd z (by decide), fun _ => s_mPlate (fun j' hj' e => ⟨fun z => absurd z (by decide), fun _ => ⟨fun z => absurd c z, fun _ => ⟨rfl, h0⟩⟩⟩) (fun _ => ⟨fun _ => ⟨rfl, h0⟩, fun z => absurd rfl z⟩)⟩) (fun z => absurd ⟨i, hi, rfl⟩ z)
    · show w_X8_change (nI i) q σ _
      unfold w_X8_change
      exact s_mPlate (fun i' hi' e => ⟨fun z => absurd z (by decide), fun _ => s_mPlate (fun j' hj' e => absurd ⟨j', hj', e⟩ hno) (fun _ => ⟨fun _ => ⟨rfl, h0⟩, fun z => absurd rfl z⟩)⟩) (fun z => absurd ⟨i, hi, rfl⟩ z)
  · show w_X8_change p q σ _
    unfold w_X8_change
    exact s_mPlate (fun i' hi' e => absurd ⟨i', hi', e⟩ hno) (fun _ => ⟨fun _ => ⟨rfl, h0⟩, fun z => absurd rfl z⟩)
