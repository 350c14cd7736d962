/-! ===== the reference settles a county; county() alike ===== -/
theorem s_settles {τ : St} {v : Int32} {n : Nat} {D : Nat → Nat → Int32} (hn : n ≤ 9) (h10 : τ 185 10 = v) (h11 : τ 185 11 = nI n) (hA : AM τ n D) {P : St → Prop}
    (h : ∀ τ', (∀ q, q ≠ 185 → q ≠ 188 → q ≠ 189 → q ≠ 191 → τ' q = τ q) → (∀ k, k ≠ 7 → k ≠ 8 → k ≠ 9 → k ≠ 18 → k ≠ 21 → τ' 185 k = τ 185 k) → τ' 185 18 = 0 → τ' 185 21 = 0 → (∀ i, i < 2 → τ' 191 i = 0) → τ' 189 48 = τ 189 48 → GM τ' 189 0 (newC v n D) → MG τ' (newC v n D) → P τ') : w_X8_settles τ P := by
  have loop : ∀ (x7 : Int32), ((v = -1 ∧ x7 = 0) ∨ (¬ v = -1 ∧ x7 = 1)) → ∀ d k θ, k + d = 9 → (∀ q, q ≠ 185 → q ≠ 188 → q ≠ 189 → θ q = τ q) → (∀ k, k ≠ 7 → k ≠ 8 → k ≠ 9 → θ 185 k = τ 185 k) → θ 185 7 = x7 → θ 185 8 = v → θ 185 9 = nI n → (∀ i, 45 ≤ i → θ 189 i = τ 189 i) → (∀ j, j < k → θ 189 j = nI j ∧ θ 189 (9 + j) = 0 ∧ θ 189 (18 + j) = -1 ∧ (j < n → θ 189 (27 + j) = D 1 j ∧ θ 188 j = D 2 j ∧ θ 189 (36 + j) = D 3 j)) → w_X8_settles_b35 P (d + 1) (nI k) θ := by
    intro x7 hx7 d
    induction d with
    | zero =>
      intro k θ hk hF hK g7 g8 g9 g45 gA
      have : k = 9 := by omega
      subst this
      unfold w_X8_settles_b35
      refine ⟨fun _ => bS ?_, fun z => absurd (by decide) z⟩
      have ez : vp_nar .boolean 0 = 0 := rfl
      rw [g9, ez]
      refine bS ?_
      generalize hφ : su (su (su (su (su (su (su θ 189 45 (((1 : Int32) <<< (nI n &&& 31)) - 1)) 189 46 0) 189 47 0) 185 21 0) 185 18 0) 191 0 0) 191 1 0 = φ
      have o : ∀ q, q ≠ 185 → q ≠ 189 → q ≠ 191 → φ q = θ q := fun q b1 b2 b3 => by rw [← hφ, su_q b3, su_q b3, su_q b1, su_q b1, su_q b2, su_q b2, su_q b2]
      have k5 : ∀ k, k ≠ 18 → k ≠ 21 → φ 185 k = θ 185 k := fun k b1 b2 => by rw [← hφ, su_q (by decide), su_q (by decide), su_k b1, su_k b2, su_q (by decide), su_q (by decide), su_q (by decide)]
      have k9 : ∀ k, k ≠ 45 → k ≠ 46 → k ≠ 47 → φ 189 k = θ 189 k := fun k b1 b2 b3 => by rw [← hφ, su_q (by decide), su_q (by decide), su_q (by decide), su_q (by decide), su_k b3, su_k b2, su_k b1]
      refine h φ (fun q b1 b2 b3 b4 => by rw [o q b1 b3 b4, hF q b1 b2 b3]) (fun k b1 b2 b3 b4 b5 => by rw [k5 k b4 b5, hK k b1 b2 b3]) ?_ ?_ (fun i hi => ?_) (by rw [k9 48 (by decide) (by decide) (by decide), g45 48 (by decide)]) ⟨fun k hk => ?_, ?_, ?_, ?_⟩ ⟨?_, fun k hk => ?_, ?_⟩
      · rw [← hφ, su_q (by decide), su_q (by decide), su_s]
      · rw [← hφ, su_q (by decide), su_q (by decide), su_k (by decide), su_s]
      · rcases (show i = 0 ∨ i = 1 by omega) with e | e <;> subst e
        · rw [← hφ, su_k (by decide), su_s]
        · rw [← hφ, su_s]
      · have hk' : k < n := hk
        obtain ⟨b1, b2, b3, b4⟩ := gA k (by omega)
        obtain ⟨b5, b6, b7⟩ := b4 hk'
        rw [Nat.zero_add, show 0 + 9 + k = 9 + k by omega, show 0 + 18 + k = 18 + k by omega, show 0 + 27 + k = 27 + k by omega, show 0 + 36 + k = 36 + k by omega, k9 k (by omega) (by omega) (by omega), k9 (9 + k) (by omega) (by omega) (by omega), k9 (18 + k) (by omega) (by omega) (by omega), k9 (27 + k) (by omega) (by omega) (by omega), k9 (36 + k) (by omega) (by omega) (by omega)]
        exact ⟨b1, b2, b3, b5, b7⟩
      · rw [← hφ, su_q (by decide), su_q (by decide), su_q (by decide), su_q (by decide), su_k (by decide), su_k (by decide)]; exact su_s
      · rw [← hφ, su_q (by decide), su_q (by decide), su_q (by decide), su_q (by decide), su_k (by decide)]; exact su_s
      · rw [← hφ, su_q (by decide), su_q (by decide), su_q (by decide), su_q (by decide)]; exact su_s
      · rw [k5 9 (by decide) (by decide)]; exact g9
      · have hk' : k < n := hk
        rw [o 188 (by decide) (by decide) (by decide)]
        exact ((gA k (by omega)).2.2.2 hk').2.1
      · rw [k5 7 (by decide) (by decide), k5 8 (by decide) (by decide), g7, g8]
        rcases hx7 with ⟨y1, y2⟩ | ⟨y1, y2⟩
        · exact Or.inl ⟨y1, y2⟩
        · exact Or.inr ⟨y1, y2, rfl⟩
    | succ d ih =>
      intro k θ hk hF hK g7 g8 g9 g45 gA
      have hk9 : k < 9 := by omega
      have e0 : (0 : Int32) + nI k = nI k := by rw [show (0 : Int32) = nI 0 from rfl, nI_add, Nat.zero_add]
      have e9 : (9 : Int32) + nI k = nI (9 + k) := nI_add 9 k
      have e18 : (18 : Int32) + nI k = nI (18 + k) := nI_add 18 k
      have e27 : (27 : Int32) + nI k = nI (27 + k) := nI_add 27 k
      have e36 : (36 : Int32) + nI k = nI (36 + k) := nI_add 36 k
      have c0 : (nI k).toNatClampNeg = k := cl_nI (by omega)
      have c9 : (nI (9 + k)).toNatClampNeg = 9 + k := cl_nI (by omega)
      have c18 : (nI (18 + k)).toNatClampNeg = 18 + k := cl_nI (by omega)
      have c27 : (nI (27 + k)).toNatClampNeg = 27 + k := cl_nI (by omega)
      have c36 : (nI (36 + k)).toNatClampNeg = 36 + k := cl_nI (by omega)
      have nx : ∀ x y z : Int32, (k < n → x = D 1 k ∧ y = D 2 k ∧ z = D 3 k) → w_X8_settles_b35 P (d + 1) (nI (k + 1)) (su (su (su (su (su (su θ 189 k (nI k)) 189 (9 + k) 0) 189 (18 + k) (-1)) 189 (27 + k) x) 188 k y) 189 (36 + k) z) := by
        intro x y z hxyz
        generalize hφ : su (su (su (su (su (su θ 189 k (nI k)) 189 (9 + k) 0) 189 (18 + k) (-1)) 189 (27 + k) x) 188 k y) 189 (36 + k) z = φ
        have o : ∀ q, q ≠ 188 → q ≠ 189 → φ q = θ q := fun q b1 b2 => by rw [← hφ, su_q b2, su_q b1, su_q b2, su_q b2, su_q b2, su_q b2]
        have p8 : ∀ j, φ 188 j = if j = k then y else θ 188 j := fun j => by rw [← hφ, su_q (by decide), su_ap, if_pos rfl, su_q (by decide), su_q (by decide), su_q (by decide), su_q (by decide)]
        have p9 : ∀ j, φ 189 j = if j = 36 + k then z else if j = 27 + k then x else if j = 18 + k then -1 else if j = 9 + k then 0 else if j = k then nI k else θ 189 j := fun j => by rw [← hφ, su_ap, if_pos rfl, su_q (by decide), su_ap, if_pos rfl, su_ap, if_pos rfl, su_ap, if_pos rfl, su_ap, if_pos rfl]
        refine ih (k + 1) φ (by omega) (fun q b1 b2 b3 => by rw [o q b2 b3, hF q b1 b2 b3]) (fun k b1 b2 b3 => by rw [o 185 (by decide) (by decide), hK k b1 b2 b3]) (by rw [o 185 (by decide) (by decide)]; exact g7) (by rw [o 185 (by decide) (by decide)]; exact g8) (by rw [o 185 (by decide) (by decide)]; exact g9) (fun i hi => ?_) (fun j hj => ?_)
        · rw [p9, if_neg (by omega), if_neg (by omega), if_neg (by omega), if_neg (by omega), if_neg (by omega)]; exact g45 i hi
        · by_cases e : j = k
          · subst e
            refine ⟨?_, ?_, ?_, fun hj2 => ⟨?_, ?_, ?_⟩⟩
            · rw [p9, if_neg (by omega), if_neg (by omega), if_neg (by omega), if_neg (by omega), if_pos rfl]
            · rw [p9, if_neg (by omega), if_neg (by omega), if_neg (by omega), if_pos rfl]
            · rw [p9, if_neg (by omega), if_neg (by omega), if_pos rfl]
            · rw [p9, if_neg (by omega), if_pos rfl]; exact (hxyz hj2).1
            · rw [p8, if_pos rfl]; exact (hxyz hj2).2.1
            · rw [p9, if_pos rfl]; exact (hxyz hj2).2.2
          · obtain ⟨b1, b2, b3, b4⟩ := gA j (by omega)
            refine ⟨?_, ?_, ?_, fun hj2 => ⟨?_, ?_, ?_⟩⟩
            · rw [p9, if_neg (by omega), if_neg (by omega), if_neg (by omega), if_neg (by omega), if_neg e]; exact b1
            · rw [p9, if_neg (by omega), if_neg (by omega), if_neg (by omega), if_neg (by omega), if_neg (by omega)]; exact b2
            · rw [p9, if_neg (by omega), if_neg (by omega), if_neg (by omega), if_neg (by omega), if_neg (by omega)]; exact b3
            · rw [p9, if_neg (by omega), if_neg (by omega), if_neg (by omega), if_neg (by omega), if_neg (by omega)]; exact (b4 hj2).1
            · rw [p8, if_neg e]; exact (b4 hj2).2.1
            · rw [p9, if_neg (by omega), if_neg (by omega), if_neg (by omega), if_neg (by omega), if_neg (by omega)]; exact (b4 hj2).2.2
      unfold w_X8_settles_b35
      rw [g9]
      refine ⟨fun z => absurd z (nI_ge (a := k) (b := 9) hk9 (by decide)), fun _ => ⟨fun z => ?_, fun z => ?_⟩⟩
      · have hnk : ¬ k < n := fun y => nI_ge y (by omega) z
        unfold w_X8_settles_b54 w_X8_settles_b106 w_X8_settles_b129 w_X8_settles_b155
        rw [e0, e9, e18, e27, e36, c0, c9, c18, c27, c36, nI_1]
        refine ⟨in_nI (by omega), in_nI (by omega), bS ⟨in_nI (by omega), fun _ => ⟨in_nI (by omega), fun _ => ⟨in_nI hk9, fun _ => ⟨in_nI (by omega), nx 0 0 0 (fun y => absurd y hnk)⟩, fun y => absurd rfl y⟩, fun y => absurd rfl y⟩, fun y => absurd rfl y⟩⟩
      · have hnk : k < n := Nat.lt_of_not_le (fun y => z (nI_le y (by omega)))
        obtain ⟨q1, q2, q3⟩ := hA k hnk
        unfold w_X8_settles_b54 w_X8_settles_b106 w_X8_settles_b129 w_X8_settles_b155
        rw [e0, e9, e18, e27, e36, c0, c9, c18, c27, c36, nI_1]
        refine ⟨in_nI (by omega), in_nI (by omega), bS ⟨in_nI (by omega), fun y => absurd y (by decide), fun _ => ⟨in_nI (by omega), in_nI (by omega), fun y => absurd y (by decide), fun _ => ⟨in_nI (by omega), in_nI hk9, fun y => absurd y (by decide), fun _ => ⟨in_nI (by omega), in_nI (by omega), nx _ _ _ (fun _ => ⟨?_, ?_, ?_⟩)⟩⟩⟩⟩⟩
        · rw [su_q (by decide), su_q (by decide), su_q (by decide), hF 187 (by decide) (by decide) (by decide)]; exact q1
        · rw [su_q (by decide), su_q (by decide), su_q (by decide), su_q (by decide), hF 187 (by decide) (by decide) (by decide)]; exact q2
        · rw [su_q (by decide), su_q (by decide), su_q (by decide), su_q (by decide), su_q (by decide), hF 187 (by decide) (by decide) (by decide)]; exact q3
  have b14 : ∀ x7 : Int32, ((v = -1 ∧ x7 = 0) ∨ (¬ v = -1 ∧ x7 = 1)) → w_X8_settles_b14 P x7 τ := by
    intro x7 hx
    unfold w_X8_settles_b14
    refine ⟨by rcases hx with ⟨_, e⟩ | ⟨_, e⟩ <;> subst e <;> rfl, ?_⟩
    rw [su_k (by decide), h10, su_k (by decide), su_k (by decide), h11]
    refine bS ⟨10, loop x7 hx 9 0 _ rfl (fun q b1 b2 b3 => by rw [su_q b1, su_q b1, su_q b1]) (fun k b1 b2 b3 => by rw [su_k b3, su_k b2, su_k b1]) (by rw [su_k (by decide), su_k (by decide)]; exact su_s) (by rw [su_k (by decide)]; exact su_s) su_s (fun i _ => by rw [su_q (by decide), su_q (by decide), su_q (by decide)]) (fun j hj => absurd hj (Nat.not_lt_zero j))⟩
  unfold w_X8_settles
  rw [h10]
  exact ⟨fun z => b14 0 (Or.inl ⟨z, rfl⟩), fun z => b14 1 (Or.inr ⟨z, rfl⟩)⟩
theorem op_county {σ : St} (h : Rel σ) : Two (w_X7_county σ) w_X8_county := by
  obtain ⟨C, L, I, h⟩ := h
  obtain ⟨a1, a2, a3, a4, a5, a6, a7, a8, a9, a10, a11, a12, a13, a14⟩ := h
  obtain ⟨m, hm, t1, t2, t3⟩ := a9
  generalize hlt : (fun k => if k < m then σ 162 k else -1 : Nat → Int32) = lt
  have l1 : ∀ k, k < m → lt k = σ 162 k := fun k hk => by rw [← hlt]; exact if_pos hk
  have hT : TxT lt m := ⟨hm, fun k hk => by rw [l1 k hk]; exact (t3 k hk).2, fun k hk => by rw [← hlt]; exact if_neg (by omega)⟩
  have hC : CT σ lt m := ⟨fun k hk => (l1 k hk).symm, t1⟩
  -- the reference, from any state that has its text
  have mod : ∀ (τ : St) (R : Int32 → St → Prop), (∀ q, 185 ≤ q → τ q = σ q) → 
      (∀ ρ, (¬ (rdA lt m).2.1 = 0) → (∀ q, q ≠ 185 → q ≠ 187 → ρ q = τ q) → (∀ k, k ≠ 0 → k ≠ 2 → k ≠ 3 → k ≠ 4 → k ≠ 5 → k ≠ 6 → k ≠ 10 → k ≠ 11 → ρ 185 k = σ 185 k) → ρ 185 2 = 0 → ρ 185 6 = nI (rdA lt m).2.2.1 → R ((-10 : Int32) - nI (rdA lt m).2.1) ρ) →
      (∀ ρ, (rdA lt m).2.1 = 0 → (∀ q, q ≠ 185 → q ≠ 187 → q ≠ 188 → q ≠ 189 → q ≠ 191 → ρ q = τ q) → ρ 185 2 = 0 → ρ 185 6 = -1 → ρ 185 18 = 0 → ρ 185 21 = 0 → (∀ i, i < 2 → ρ 191 i = 0) → ρ 189 48 = σ 189 48 → GM ρ 189 0 (newC (rdA lt m).1 (rdA lt m).2.2.2.1 (rdA lt m).2.2.2.2) → MG ρ (newC (rdA lt m).1 (rdA lt m).2.2.2.1 (rdA lt m).2.2.2.2) → R (nI (rdA lt m).2.2.2.1) ρ) → w_X8_county τ R := by
    intro τ R hτ hbad hok
    have s5 : τ 185 = σ 185 := hτ 185 (by decide)
    unfold w_X8_county
    refine bS ?_
    generalize hφ : su (su (su (su (su τ 185 0 (0 : Int32)) 185 3 (0 : Int32)) 185 4 (0 : Int32)) 185 10 (-1 : Int32)) 185 11 (0 : Int32) = φ
    have o : ∀ q, q ≠ 185 → φ q = τ q := fun q b => by rw [← hφ, su_q b, su_q b, su_q b, su_q b, su_q b]
    have k : ∀ i, i ≠ 0 → i ≠ 3 → i ≠ 4 → i ≠ 10 → i ≠ 11 → φ 185 i = σ 185 i := fun i b1 b2 b3 b4 b5 => by rw [← hφ, su_k b5, su_k b4, su_k b3, su_k b2, su_k b1, s5]
    have hM : MT φ lt m := ⟨fun i hi => by rw [o 186 (by decide), hτ 186 (by decide), l1 i hi]; exact (t3 i hi).1.symm, by rw [k 2 (by decide) (by decide) (by decide) (by decide) (by decide)]; exact t2⟩
    refine s_mreads hT hM (by rw [← hφ, su_k (by decide), su_k (by decide), su_k (by decide), su_s]) (by rw [← hφ, su_k (by decide), su_k (by decide), su_s]) (by rw [← hφ, su_k (by decide), su_s]) (by rw [← hφ, su_s]) (fun θ f1 f4 f5 f6 => ?_)
    by_cases c : (rdA lt m).2.1 = 0
    · obtain ⟨g10, g11, gA⟩ := f6 c
      have f4' : θ 185 4 = 0 := by rw [f4, c]; rfl
      refine s_well1 (by rw [su_k (by decide)]; exact f4') ⟨fun z => absurd z (by decide), fun _ => ?_⟩
      unfold w_X8_county_b50
      refine s_well1 (by rw [su_k (by decide), su_k (by decide)]; exact f4') ⟨fun _ => ?_, fun z => absurd z (by decide)⟩
      generalize hψ : su (su θ 185 2 (0 : Int32)) 185 6 (-1 : Int32) = ψ
      have o2 : ∀ q, q ≠ 185 → ψ q = θ q := fun q b => by rw [← hψ, su_q b, su_q b]
      have k2 : ∀ i, i ≠ 2 → i ≠ 6 → ψ 185 i = θ 185 i := fun i b1 b2 => by rw [← hψ, su_k b2, su_k b1]
      refine s_settles (v := (rdA lt m).1) (rdA_ok hT c).1 (by rw [k2 10 (by decide) (by decide)]; exact g10) (by rw [k2 11 (by decide) (by decide)]; exact g11) (gA.of (o2 187 (by decide))) (fun ρ r1 r2 r18 r21 r191 r48 rM rG => ?_)
      rw [rG.1]
      refine hok ρ c (fun q b1 b2 b3 b4 b5 => by rw [r1 q b1 b3 b4 b5, o2 q b1, f1.1 q b1 b2, o q b1]) ?_ ?_ r18 r21 r191 ?_ rM rG
      · rw [r2 2 (by decide) (by decide) (by decide) (by decide) (by decide), ← hψ, su_k (by decide), su_s]
      · rw [r2 6 (by decide) (by decide) (by decide) (by decide) (by decide), ← hψ, su_s]
      · rw [r48, o2 189 (by decide), f1.1 189 (by decide) (by decide), o 189 (by decide), hτ 189 (by decide)]
    · have h5 := f5 c
      have hlt4 : (rdA lt m).2.1 < 2 ^ 31 := by
        have := rdA_kd hT
        omega
      have f4' : ¬ θ 185 4 = 0 := by rw [f4]; exact nI_ne0 (by omega) hlt4
      refine s_well0 (by rw [su_k (by decide)]; exact f4') ⟨fun _ => ?_, fun z => absurd rfl z⟩
      unfold w_X8_county_b50
      refine s_well0 (by rw [su_k (by decide), su_k (by decide)]; exact f4') ⟨fun z => absurd rfl z, fun _ => ?_⟩
      have e4 : su (su θ 185 2 (0 : Int32)) 185 6 (su θ 185 2 (0 : Int32) 185 5) 185 4 = nI (rdA lt m).2.1 := by rw [su_k (by decide), su_k (by decide)]; exact f4
      rw [e4]
      refine hbad _ c (fun q b1 b2 => by rw [su_q b1, su_q b1, f1.1 q b1 b2, o q b1]) (fun i b0 b2 b3 b4 b5 b6 b10 b11 => ?_) ?_ ?_
      · rw [su_k b6, su_k b2, f1.2 i b3 b4 b5 b10 b11, k i b0 b3 b4 b10 b11]
      · rw [su_k (by decide), su_s]
      · rw [su_s, su_k (by decide)]; exact h5
  unfold Two w_X7_county
  refine s_read hT hC (fun τ f1 f4 f9 fA => ⟨fun c => ?_, fun c => ?_⟩)
  · have c0 : (rdA lt m).2.1 = 0 := by
      have := rdA_kd hT
      exact nI_inj (b := 0) (by omega) (by decide) c
    obtain ⟨g6, g7, gA⟩ := fA c0
    obtain ⟨hn, hD, hv⟩ := rdA_ok hT c0
    rw [if_pos c0] at f9
    rw [f9]
    have o1 : ∀ q, q ≠ 160 → su τ 160 12 (-1) q = τ q := fun q b => su_q b
    refine s_found (v := (rdA lt m).1) hn (by rw [o1 161 (by decide)]; exact g6) (by rw [o1 161 (by decide)]; exact g7) (fun k hk => by rw [o1 163 (by decide), o1 164 (by decide), o1 165 (by decide)]; exact gA k hk) (fun θ r1 rG => ⟨3, ?_⟩)
    have ez : vp_nar .boolean 0 = 0 := rfl
    unfold w_X7_county_b41
    refine ⟨fun z => absurd z (by decide), fun _ => ⟨in_nI (n := 0) (by decide), ?_⟩⟩
    unfold w_X7_county_b41
    refine ⟨fun z => absurd z (by decide), fun _ => ⟨in_nI (n := 1) (by decide), ?_⟩⟩
    unfold w_X7_county_b41 w_X4_forget w_X1_clear w_X7_stirred
    refine ⟨fun _ => ?_, fun z => absurd (by decide) z⟩
    rw [ez]
    dsimp only
    generalize hφ : su (su (su (su (su (su θ 169 (0 : Int32).toNatClampNeg 0) 169 ((0 : Int32) + 1).toNatClampNeg 0) 166 2 0) 182 2 0) 176 1 0) 178 4 0 = φ
    have o : ∀ q, q ≠ 169 → q ≠ 166 → q ≠ 182 → q ≠ 176 → q ≠ 178 → φ q = θ q := fun q b1 b2 b3 b4 b5 => by rw [← hφ, su_q b5, su_q b4, su_q b3, su_q b2, su_q b1, su_q b1]
    have p169 : ∀ i, i < 2 → φ 169 i = 0 := by
      intro i hi
      rw [← hφ, su_q (by decide), su_q (by decide), su_q (by decide), su_q (by decide)]
      rcases (show i = 0 ∨ i = 1 by omega) with e | e <;> subst e
      · rw [su_k (by decide)]; exact su_s
      · exact su_s
    have p166 : φ 166 1 = σ 166 1 := by
      rw [← hφ, su_q (by decide), su_q (by decide), su_q (by decide), su_k (by decide), su_q (by decide), su_q (by decide), r1 166 (by decide), o1 166 (by decide), f1 166 (by decide) (by decide) (by decide) (by decide)]
    have p166b : φ 166 2 = 0 := by rw [← hφ, su_q (by decide), su_q (by decide), su_q (by decide), su_s]
    have p182 : φ 182 2 = 0 := by rw [← hφ, su_q (by decide), su_q (by decide), su_s]
    have p176 : φ 176 1 = 0 := by rw [← hφ, su_q (by decide), su_s]
    have p178 : φ 178 4 = 0 := by rw [← hφ, su_s]
    have oσ : ∀ q, 8 ≤ q → q ≠ 160 → q ≠ 161 → q ≠ 163 → q ≠ 164 → q ≠ 165 → q ≠ 169 → q ≠ 166 → q ≠ 182 → q ≠ 176 → q ≠ 178 → φ q = σ q := fun q b0 b1 b2 b3 b4 b5 b6 b7 b8 b9 b10 => by rw [o q b6 b7 b8 b9 b10, r1 q b0, o1 q b1, f1 q b2 b3 b4 b5]
    have p160 : φ 160 11 = σ 160 11 := by rw [o 160 (by decide) (by decide) (by decide) (by decide) (by decide), r1 160 (by decide), su_k (by decide), f1 160 (by decide) (by decide) (by decide) (by decide)]
    have p160b : φ 160 12 = -1 := by rw [o 160 (by decide) (by decide) (by decide) (by decide) (by decide), r1 160 (by decide), su_s]
    have p161 : φ 161 4 = 0 := by rw [o 161 (by decide) (by decide) (by decide) (by decide) (by decide), r1 161 (by decide), o1 161 (by decide)]; exact f4
    have pG : GX φ 0 (newC (rdA lt m).1 (rdA lt m).2.2.2.1 (rdA lt m).2.2.2.2) := rG.of (fun q b1 b2 => o q (by omega) (by omega) (by omega) (by omega) (by omega))
    rw [pG.2.1]
    refine mod φ _ (fun q hq => oσ q (by omega) (by omega) (by omega) (by omega) (by omega) (by omega) (by omega) (by omega) (by omega) (by omega) (by omega)) (fun ρ z _ _ _ _ => absurd c0 z) (fun ρ _ u1 u2 u6 u18 u21 u191 u48 uM uG => ⟨rfl, newC (rdA lt m).1 (rdA lt m).2.2.2.1 (rdA lt m).2.2.2.2, [], I, newC_ok hn hD hv, pG.of (fun q b1 b2 => u1 q (by omega) (by omega) (by omega) (by omega) (by omega)), uM, uG, (fun D hD => by cases hD), ?_, ⟨by decide, u18, fun i D hD => by simp at hD⟩, fun i hi => Or.inl ⟨by rw [u1 169 (by decide) (by decide) (by decide) (by decide) (by decide)]; exact p169 i hi, u191 i hi⟩, ⟨0, by decide, by rw [u1 161 (by decide) (by decide) (by decide) (by decide) (by decide)]; exact p161, u2, fun k hk => absurd hk (Nat.not_lt_zero k)⟩, ?_, ⟨?_, ?_⟩, ⟨0, by decide, by rw [u1 182 (by decide) (by decide) (by decide) (by decide) (by decide)]; exact p182, u21, fun k hk => absurd hk (Nat.not_lt_zero k)⟩, Or.inl (by rw [u1 176 (by decide) (by decide) (by decide) (by decide) (by decide)]; exact p176), Or.inl (by rw [u1 178 (by decide) (by decide) (by decide) (by decide) (by decide)]; exact p178)⟩)
    · obtain ⟨pl, p2, nx, p3, p4, p5⟩ := a6
      refine ⟨by decide, ?_, nx, p3, ?_, fun i D hD => by simp at hD⟩
      · rw [u1 166 (by decide) (by decide) (by decide) (by decide) (by decide)]; exact p166b
      · rw [u1 166 (by decide) (by decide) (by decide) (by decide) (by decide), p166]; exact p4
    · rw [u1 160 (by decide) (by decide) (by decide) (by decide) (by decide), p160b, u6]
    · rw [u1 160 (by decide) (by decide) (by decide) (by decide) (by decide), p160, u48]; exact a11.1
    · rw [u1 160 (by decide) (by decide) (by decide) (by decide) (by decide), p160]; exact a11.2
  · have c0 : ¬ (rdA lt m).2.1 = 0 := fun z => c (by rw [z]; rfl)
    rw [if_neg c0] at f9
    rw [f9]
    generalize hφ : su τ 160 12 (nI (rdA lt m).2.2.1) = φ
    have o : ∀ q, q ≠ 160 → φ q = τ q := fun q b => by rw [← hφ, su_q b]
    have oσ : ∀ q, q ≠ 160 → q ≠ 161 → q ≠ 163 → q ≠ 164 → q ≠ 165 → φ q = σ q := fun q b1 b2 b3 b4 b5 => by rw [o q b1, f1 q b2 b3 b4 b5]
    have p160 : φ 160 11 = σ 160 11 := by rw [← hφ, su_k (by decide), f1 160 (by decide) (by decide) (by decide) (by decide)]
    have p160b : φ 160 12 = nI (rdA lt m).2.2.1 := by rw [← hφ, su_s]
    have p161 : φ 161 4 = 0 := by rw [o 161 (by decide)]; exact f4
    refine mod φ _ (fun q hq => oσ q (by omega) (by omega) (by omega) (by omega) (by omega)) (fun ρ _ u1 u5 u2 u6 => ⟨rfl, C, L, I, ?_⟩) (fun ρ z _ _ _ _ _ _ _ _ _ => absurd z c0)
    have hz : ∀ q, q ≠ 160 → q ≠ 161 → q ≠ 163 → q ≠ 164 → q ≠ 165 → q ≠ 185 → q ≠ 187 → ρ q = σ q := fun q b1 b2 b3 b4 b5 b6 b7 => by rw [u1 q b6 b7, oσ q b1 b2 b3 b4 b5]
    have z1 : ∀ q, (q < 160 ∨ 166 ≤ q ∨ q = 162) → q ≠ 185 → q ≠ 187 → ρ q = σ q := fun q b0 b1 b2 => hz q (by omega) (by omega) (by omega) (by omega) (by omega) b1 b2
    have hk : ∀ k, k ≠ 0 → k ≠ 2 → k ≠ 3 → k ≠ 4 → k ≠ 5 → k ≠ 6 → k ≠ 10 → k ≠ 11 → ρ 185 k = σ 185 k := u5
    refine ⟨a1, a2.of (fun q b1 b2 => z1 q (by omega) (by omega) (by omega)), a3.of a1.1 (fun k _ _ => by rw [z1 189 (by omega) (by decide) (by decide)]), a4.of (hk 7 (by decide) (by decide) (by decide) (by decide) (by decide) (by decide) (by decide) (by decide)) (hk 8 (by decide) (by decide) (by decide) (by decide) (by decide) (by decide) (by decide) (by decide)) (hk 9 (by decide) (by decide) (by decide) (by decide) (by decide) (by decide) (by decide) (by decide)) (z1 188 (by omega) (by decide) (by decide)), a5, a6.of (by rw [z1 166 (by omega) (by decide) (by decide)]) (by rw [z1 166 (by omega) (by decide) (by decide)]) (fun q b1 b2 => z1 q (by omega) (by omega) (by omega)), a7.of (fun D hD => (a5 D hD).1) (hk 18 (by decide) (by decide) (by decide) (by decide) (by decide) (by decide) (by decide) (by decide)) (z1 192 (by omega) (by decide) (by decide)), a8.of (fun q b1 b2 => z1 q (by omega) (by omega) (by omega)) (z1 169 (by omega) (by decide) (by decide)) (z1 170 (by omega) (by decide) (by decide)) (z1 190 (by omega) (by decide) (by decide)) (z1 191 (by omega) (by decide) (by decide)), ⟨0, by decide, by rw [u1 161 (by decide) (by decide)]; exact p161, u2, fun k hk => absurd hk (Nat.not_lt_zero k)⟩, ?_, ⟨?_, ?_⟩, a12.of (by rw [z1 182 (by omega) (by decide) (by decide)]) (hk 21 (by decide) (by decide) (by decide) (by decide) (by decide) (by decide) (by decide) (by decide)) (z1 183 (by omega) (by decide) (by decide)) (z1 193 (by omega) (by decide) (by decide)) (z1 184 (by omega) (by decide) (by decide)) (z1 194 (by omega) (by decide) (by decide)), a13.of (by rw [z1 176 (by omega) (by decide) (by decide)]) (z1 177 (by omega) (by decide) (by decide)), a14.of (z1 178 (by omega) (by decide) (by decide))⟩
    · rw [u1 160 (by decide) (by decide), p160b, u6]
    · rw [u1 160 (by decide) (by decide), p160, z1 189 (by omega) (by decide) (by decide)]; exact a11.1
    · rw [u1 160 (by decide) (by decide), p160]; exact a11.2
