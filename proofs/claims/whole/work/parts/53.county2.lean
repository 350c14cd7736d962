/-! ===== a county as it was read ===== -/
def newC (v : Int32) (n : Nat) (D : Nat → Nat → Int32) : Cty := (n, v, fun i k => if i = 4 then nI k else if i = 5 then 0 else if i = 6 then -1 else D i k, ((1 : Int32) <<< (nI n &&& 31)) - 1, 0, 0)
def DOk (n : Nat) (D : Nat → Nat → Int32) : Prop := ∀ k, k < n → (∃ a : Nat, a ≤ 3 ∧ D 1 k = nI a) ∧ (∃ a : Nat, 1 ≤ a ∧ a ≤ 20 ∧ D 2 k = nI a) ∧ ∃ a : Nat, a ≤ 9 ∧ D 3 k = nI a
theorem sg_ok {lt : Nat → Int32} {m : Nat} {c : Int32} {j j2 : Nat} (hT : TxT lt m) (hc : ¬ c = -1) (h : sgF lt m c j = .ok j2) : j2 ≤ m := by
  unfold sgF at h
  split at h
  · rename_i e
    have := lt_in hT e hc
    simp only [Except.ok.injEq] at h
    omega
  · simp at h
theorem sk_ok {lt : Nat → Int32} {m j : Nat} (hT : TxT lt m) (hj : j ≤ m) {a b c : Int32} {j4 : Nat} (h : skF lt m j = .ok (a, b, c, j4)) : j4 ≤ m ∧ (∃ x : Nat, x ≤ 3 ∧ a = nI x) ∧ (∃ x : Nat, 1 ≤ x ∧ x ≤ 20 ∧ b = nI x) ∧ ∃ x : Nat, x ≤ 9 ∧ c = nI x := by
  unfold skF at h
  split at h
  · simp at h
  · rename_i a' j1 e1
    obtain ⟨x1, x2, x3, x4⟩ := nu_ok e1 hj
    split at h
    · simp at h
    · rename_i b' j2 e2
      obtain ⟨y1, y2, y3, y4⟩ := nu_ok e2 x4
      split at h
      · simp at h
      · rename_i c' j3 e3
        obtain ⟨z1, z2, z3, z4⟩ := nu_ok e3 y4
        split at h
        · simp at h
        · rename_i j4' e4
          have e5 := sg_ok hT (by decide) e4
          simp only [Except.ok.injEq, Prod.mk.injEq] at h
          obtain ⟨h1, h2, h3, h4⟩ := h
          subst h1 h2 h3 h4
          refine ⟨e5, nI_of2 (M := 3) (n := 3) (by decide) x1 (Int32.not_lt.mp x2), ?_, nI_of2 (M := 9) (n := 9) (by decide) z1 (Int32.not_lt.mp z2)⟩
          have y0 : ¬ b' < 0 := fun q => y1 (by
            rw [Int32.lt_iff_toInt_lt, show (1 : Int32).toInt = 1 by decide]
            rw [Int32.lt_iff_toInt_lt, show (0 : Int32).toInt = 0 by decide] at q
            omega)
          obtain ⟨x, hx, ex⟩ := nI_of2 (M := 20) (n := 20) (by decide) y0 (Int32.not_lt.mp y2)
          refine ⟨x, ?_, hx, ex⟩
          rcases Nat.eq_zero_or_pos x with q | q
          · rw [ex, q] at y1; exact absurd (by decide) y1
          · exact q
theorem sk_bad {lt : Nat → Int32} {m j : Nat} (hj : j ≤ m) {kd pl : Nat} (e : skF lt m j = .error (kd, pl)) : kd = 1 ∨ kd = 2 := by
  unfold skF at e
  split at e
  · rename_i x e1
    rw [Except.error.injEq] at e
    subst e
    exact (nu_bad e1 hj).1
  · rename_i a j1 e1
    obtain ⟨x1, x2, x3, x4⟩ := nu_ok e1 hj
    split at e
    · rename_i x e2
      rw [Except.error.injEq] at e
      subst e
      exact (nu_bad e2 x4).1
    · rename_i b j2 e2
      obtain ⟨y1, y2, y3, y4⟩ := nu_ok e2 x4
      split at e
      · rename_i x e3
        rw [Except.error.injEq] at e
        subst e
        exact (nu_bad e3 y4).1
      · rename_i c j3 e3
        split at e
        · rename_i x e4
          rw [Except.error.injEq] at e
          subst e
          exact Or.inl (sg_bad e4)
        · simp at e
theorem fl_bad {lt : Nat → Int32} {m j : Nat} (hj : j ≤ m) {kd pl : Nat} (e : flF lt m j = .error (kd, pl)) : kd = 1 ∨ kd = 2 := by
  unfold flF at e
  split at e
  · rename_i x e1
    rw [Except.error.injEq] at e
    subst e
    exact (nu_bad e1 hj).1
  · rename_i v j1 e1
    split at e
    · rename_i x e2
      rw [Except.error.injEq] at e
      subst e
      exact Or.inl (sg_bad e2)
    · simp at e
theorem rdS_ok {lt : Nat → Int32} {m : Nat} (hT : TxT lt m) : ∀ f j n D, j ≤ m → n ≤ 9 → DOk n D → (rdS lt m f j n D).1 = 0 → (rdS lt m f j n D).2.2.1 ≤ 9 ∧ DOk (rdS lt m f j n D).2.2.1 (rdS lt m f j n D).2.2.2 := by
  intro f
  induction f with
  | zero => intro j n D hj hn hD _; exact ⟨hn, hD⟩
  | succ f ih =>
    intro j n D hj hn hD h
    obtain ⟨a1, a2⟩ := sk_rng lt hj
    unfold rdS at h ⊢
    by_cases c1 : m ≤ sk lt m j
    · rw [if_pos c1]; exact ⟨hn, hD⟩
    · rw [if_neg c1] at h ⊢
      by_cases c2 : lt (sk lt m j) = 103
      · rw [if_pos c2] at h; simp at h
      · rw [if_neg c2] at h ⊢
        by_cases c3 : lt (sk lt m j) = 115
        · rw [if_pos c3] at h ⊢
          by_cases c4 : n = 9
          · rw [if_pos c4] at h; simp at h
          · rw [if_neg c4] at h ⊢
            split at h
            · rename_i kd pl e
              exfalso
              have hh : kd = 0 := h
              have := sk_bad (show sk lt m j + 1 ≤ m by omega) e
              omega
            · rename_i a b c j4 e
              obtain ⟨l1, l2, l3, l4⟩ := sk_ok hT (show sk lt m j + 1 ≤ m by omega) e
              refine ih j4 (n + 1) _ l1 (by omega) (fun k hk => ?_) h
              unfold stD
              by_cases ek : k = n
              · rw [if_pos ek, if_pos ek, if_pos ek]
                exact ⟨l2, l3, l4⟩
              · rw [if_neg ek, if_neg ek, if_neg ek]
                exact hD k (by omega)
        · rw [if_neg c3] at h; simp at h
theorem rdS_kd {lt : Nat → Int32} {m : Nat} (hT : TxT lt m) : ∀ f j n D, j ≤ m → (rdS lt m f j n D).1 < 4 := by
  intro f
  induction f with
  | zero => intro j n D _; exact (by decide : (0 : Nat) < 4)
  | succ f ih =>
    intro j n D hj
    obtain ⟨a1, a2⟩ := sk_rng lt hj
    unfold rdS
    by_cases c1 : m ≤ sk lt m j
    · rw [if_pos c1]; exact (by decide : (0 : Nat) < 4)
    · rw [if_neg c1]
      by_cases c2 : lt (sk lt m j) = 103
      · rw [if_pos c2]; exact (by decide : (3 : Nat) < 4)
      · rw [if_neg c2]
        by_cases c3 : lt (sk lt m j) = 115
        · rw [if_pos c3]
          by_cases c4 : n = 9
          · rw [if_pos c4]; exact (by decide : (3 : Nat) < 4)
          · rw [if_neg c4]
            split
            · rename_i kd pl e
              have := sk_bad (show sk lt m j + 1 ≤ m by omega) e
              show kd < 4
              omega
            · rename_i a b c j4 e
              exact ih j4 _ _ (sk_ok hT (show sk lt m j + 1 ≤ m by omega) e).1
        · rw [if_neg c3]; exact (by decide : (1 : Nat) < 4)
theorem fl_ok {lt : Nat → Int32} {m j : Nat} (hT : TxT lt m) (hj : j ≤ m) {v : Int32} {j2 : Nat} (e : flF lt m j = .ok (v, j2)) : j2 ≤ m ∧ ∃ a : Nat, a ≤ 9 ∧ v = nI a := by
  unfold flF at e
  split at e
  · simp at e
  · rename_i v' j1 e1
    obtain ⟨x1, x2, x3, x4⟩ := nu_ok e1 hj
    split at e
    · simp at e
    · rename_i j2' e2
      have e5 := sg_ok hT (by decide) e2
      simp only [Except.ok.injEq, Prod.mk.injEq] at e
      obtain ⟨h1, h2⟩ := e
      subst h1 h2
      exact ⟨e5, nI_of2 (M := 9) (n := 9) (by decide) x1 (Int32.not_lt.mp x2)⟩
theorem rdA_kd {lt : Nat → Int32} {m : Nat} (hT : TxT lt m) : (rdA lt m).2.1 < 4 := by
  obtain ⟨a1, a2⟩ := sk_rng lt (Nat.zero_le m)
  unfold rdA
  by_cases c1 : m ≤ sk lt m 0
  · rw [if_pos c1]; exact (by decide : (0 : Nat) < 4)
  · rw [if_neg c1]
    by_cases c2 : lt (sk lt m 0) = 103
    · rw [if_pos c2]
      split
      · rename_i kd pl e
        have := fl_bad (show sk lt m 0 + 1 ≤ m by omega) e
        show kd < 4
        omega
      · rename_i v j2 e
        exact rdS_kd hT 240 j2 _ _ (fl_ok hT (show sk lt m 0 + 1 ≤ m by omega) e).1
    · rw [if_neg c2]; exact (by decide : (1 : Nat) < 4)
theorem rdA_ok {lt : Nat → Int32} {m : Nat} (hT : TxT lt m) (h : (rdA lt m).2.1 = 0) : (rdA lt m).2.2.2.1 ≤ 9 ∧ DOk (rdA lt m).2.2.2.1 (rdA lt m).2.2.2.2 ∧ (((rdA lt m).1 = -1 ∧ (rdA lt m).2.2.2.1 = 0) ∨ ∃ a : Nat, a ≤ 9 ∧ (rdA lt m).1 = nI a) := by
  obtain ⟨a1, a2⟩ := sk_rng lt (Nat.zero_le m)
  unfold rdA at h ⊢
  by_cases c1 : m ≤ sk lt m 0
  · rw [if_pos c1]; exact ⟨Nat.zero_le _, fun k hk => absurd hk (Nat.not_lt_zero k), Or.inl ⟨rfl, rfl⟩⟩
  · rw [if_neg c1] at h ⊢
    by_cases c2 : lt (sk lt m 0) = 103
    · rw [if_pos c2] at h ⊢
      split at h
      · rename_i kd pl e
        exfalso
        have hh : kd = 0 := h
        have := fl_bad (show sk lt m 0 + 1 ≤ m by omega) e
        omega
      · rename_i v j2 e
        have hv := fl_ok hT (show sk lt m 0 + 1 ≤ m by omega) e
        obtain ⟨r1, r2⟩ := rdS_ok hT 240 j2 0 (fun _ _ => 0) hv.1 (by decide) (fun k hk => absurd hk (Nat.not_lt_zero k)) h
        exact ⟨r1, r2, Or.inr hv.2⟩
    · rw [if_neg c2] at h; simp at h
theorem newC_ok {v : Int32} {n : Nat} {D : Nat → Nat → Int32} (hn : n ≤ 9) (hD : DOk n D) (hv : (v = -1 ∧ n = 0) ∨ ∃ a : Nat, a ≤ 9 ∧ v = nI a) : COk (newC v n D) := by
  refine ⟨hn, fun k hk => ?_, fun j k hj hk h => ?_, ?_, hv⟩
  · obtain ⟨d1, d2, d3⟩ := hD k hk
    have hk' : k < n := hk
    exact ⟨d1, d2, d3, ⟨k, by omega, rfl⟩, Or.inl rfl⟩
  · have hj' : j < n := hj
    have hk' : k < n := hk
    exact nI_inj (by omega) (by omega) h
  · refine ⟨2 ^ n - 1, ?_, full_nI ⟨n, by omega⟩⟩
    have : 0 < 2 ^ n := Nat.two_pow_pos n
    show 2 ^ n - 1 < 2 ^ n
    omega
theorem onF_id {pl : Nat → Int32} (hp : ∀ k, pl k = nI k) : ∀ n p, n ≤ 9 → p < 9 → onF pl n p = if p < n then nI p else -1 := by
  intro n
  induction n with
  | zero => intro p _ _; rfl
  | succ n ih =>
    intro p hn h9
    unfold onF
    rw [hp n]
    by_cases c : n = p
    · rw [if_pos (by rw [c]), if_pos (by omega), c]
    · rw [if_neg (fun z => c (nI_inj (by omega) (by omega) z)), ih p (by omega) h9]
      by_cases c2 : p < n
      · rw [if_pos c2, if_pos (by omega)]
      · rw [if_neg c2, if_neg (by omega)]
/-- the class begins anew with what was read -/
theorem s_found {τ : St} {v : Int32} {n : Nat} {D : Nat → Nat → Int32} (hn : n ≤ 9) (h6 : τ 161 6 = v) (h7 : τ 161 7 = nI n) (hA : AR τ n D) {P : St → Prop}
    (h : ∀ τ', (∀ q, 8 ≤ q → τ' q = τ q) → GX τ' 0 (newC v n D) → P τ') : w_X3_found 0 τ P := by
  have loop : ∀ d k θ, k + d = 9 → (∀ q, 8 ≤ q → θ q = τ q) → θ 0 7 = v → θ 0 8 = nI n → (∀ j, j < k → θ 1 j = τ 163 j ∧ θ 2 j = τ 164 j ∧ θ 3 j = τ 165 j ∧ θ 4 j = nI j ∧ θ 5 j = 0 ∧ θ 6 j = -1 ∧ θ 7 j = if j < n then nI j else -1) → w_X3_found_b18 0 P (d + 1) (nI k) θ := by
    intro d
    induction d with
    | zero =>
      intro k θ hk hF g7 g8 gA
      have : k = 9 := by omega
      subst this
      unfold w_X3_found_b18 w_X3_standAll
      refine ⟨fun _ => ?_, fun z => absurd (by decide) z⟩
      rw [g8]
      show P (su (su (su θ 0 9 (((1 : Int32) <<< (nI n &&& 31)) - (1 : Int32))) 0 10 (0 : Int32)) 0 11 (0 : Int32))
      generalize hφ : su (su (su θ 0 9 (((1 : Int32) <<< (nI n &&& 31)) - (1 : Int32))) 0 10 (0 : Int32)) 0 11 (0 : Int32) = φ
      have o : ∀ q, q ≠ 0 → φ q = θ q := fun q hq => by rw [← hφ, su_q hq, su_q hq, su_q hq]
      refine h φ (fun q hq => by rw [o q (by omega), hF q hq]) ⟨?_, ?_, ?_, ?_, ?_, fun i k h1 h2 hk => ?_, fun p hp => ?_⟩
      · rw [← hφ, su_k (by decide), su_k (by decide), su_k (by decide)]; exact g7
      · rw [← hφ, su_k (by decide), su_k (by decide), su_k (by decide)]; exact g8
      · rw [← hφ, su_k (by decide), su_k (by decide), su_s]; rfl
      · rw [← hφ, su_k (by decide), su_s]; rfl
      · rw [← hφ, su_s]; rfl
      · have hk' : k < n := hk
        obtain ⟨b1, b2, b3, b4, b5, b6, b7⟩ := gA k (by omega)
        obtain ⟨c1, c2, c3⟩ := hA k hk'
        rw [o (0 + i) (by omega), Nat.zero_add]
        rcases (show i = 1 ∨ i = 2 ∨ i = 3 ∨ i = 4 ∨ i = 5 ∨ i = 6 by omega) with e | e | e | e | e | e <;> subst e
        · exact b1.trans c1
        · exact b2.trans c2
        · exact b3.trans c3
        · exact b4
        · exact b5
        · exact b6
      · rw [o (0 + 7) (by decide)]
        show θ 7 p = onF (cd (newC v n D) 4) n p
        rw [onF_id (pl := cd (newC v n D) 4) (fun _ => rfl) n p hn hp]
        exact (gA p hp).2.2.2.2.2.2
    | succ d ih =>
      intro k θ hk hF g7 g8 gA
      unfold w_X3_found_b18
      have hk9 : k < 9 := by omega
      rw [cl_nI (by omega)]
      refine ⟨fun z => absurd z (nI_ge (a := k) (b := 9) hk9 (by decide)), fun _ => ⟨in_nI hk9, in_nI hk9, in_nI hk9, in_nI hk9, bS ⟨in_nI hk9, in_nI hk9, in_nI hk9, bS ⟨in_nI hk9, in_nI hk9, ?_⟩⟩⟩⟩
      unfold w_X3_found_b99
      rw [cl_nI (by omega), nI_1]
      rw [su_q (show 164 ≠ 0 + 1 by decide), su_q (show 165 ≠ 0 + 2 by decide), su_q (show 165 ≠ 0 + 1 by decide)]
      generalize hφ : su (su (su (su (su (su θ (0 + 1) k (θ 163 k)) (0 + 2) k (θ 164 k)) (0 + 3) k (θ 165 k)) (0 + 4) k (nI k)) (0 + 5) k 0) (0 + 6) k (-1) = φ
      have o : ∀ q, (q = 0 ∨ 7 ≤ q) → φ q = θ q := fun q hq => by rw [← hφ, su_q (by omega), su_q (by omega), su_q (by omega), su_q (by omega), su_q (by omega), su_q (by omega)]
      rw [o 0 (by omega), g8]
      have p1 : ∀ j, φ 1 j = if j = k then θ 163 k else θ 1 j := fun j => by rw [← hφ, su_q (by decide), su_q (by decide), su_q (by decide), su_q (by decide), su_q (by decide), su_ap, if_pos rfl]
      have p2 : ∀ j, φ 2 j = if j = k then θ 164 k else θ 2 j := fun j => by rw [← hφ, su_q (by decide), su_q (by decide), su_q (by decide), su_q (by decide), su_ap, if_pos rfl, su_q (by decide)]
      have p3 : ∀ j, φ 3 j = if j = k then θ 165 k else θ 3 j := fun j => by rw [← hφ, su_q (by decide), su_q (by decide), su_q (by decide), su_ap, if_pos rfl, su_q (by decide), su_q (by decide)]
      have p4 : ∀ j, φ 4 j = if j = k then nI k else θ 4 j := fun j => by rw [← hφ, su_q (by decide), su_q (by decide), su_ap, if_pos rfl, su_q (by decide), su_q (by decide), su_q (by decide)]
      have p5 : ∀ j, φ 5 j = if j = k then 0 else θ 5 j := fun j => by rw [← hφ, su_q (by decide), su_ap, if_pos rfl, su_q (by decide), su_q (by decide), su_q (by decide), su_q (by decide)]
      have p6 : ∀ j, φ 6 j = if j = k then -1 else θ 6 j := fun j => by rw [← hφ, su_ap, if_pos rfl, su_q (by decide), su_q (by decide), su_q (by decide), su_q (by decide), su_q (by decide)]
      have nx : ∀ s2 : Int32, s2 = (if k < n then nI k else -1) → w_X3_found_b18 0 P (d + 1) (nI (k + 1)) (su φ (0 + 7) k s2) := by
        intro s2 hs
        refine ih (k + 1) _ (by omega) (fun q hq => by rw [su_q (by omega), o q (by omega), hF q hq]) (by rw [su_q (by decide), o 0 (by omega)]; exact g7) (by rw [su_q (by decide), o 0 (by omega)]; exact g8) (fun j hj => ?_)
        rw [su_q (show 1 ≠ 0 + 7 by decide), su_q (show 2 ≠ 0 + 7 by decide), su_q (show 3 ≠ 0 + 7 by decide), su_q (show 4 ≠ 0 + 7 by decide), su_q (show 5 ≠ 0 + 7 by decide), su_q (show 6 ≠ 0 + 7 by decide), p1, p2, p3, p4, p5, p6, su_ap, if_pos (show 7 = 0 + 7 by decide), o 7 (by omega)]
        by_cases e : j = k
        · rw [if_pos e, if_pos e, if_pos e, if_pos e, if_pos e, if_pos e, if_pos e, e, hF 163 (by decide), hF 164 (by decide), hF 165 (by decide)]
          exact ⟨rfl, rfl, rfl, rfl, rfl, rfl, hs⟩
        · rw [if_neg e, if_neg e, if_neg e, if_neg e, if_neg e, if_neg e, if_neg e]
          exact gA j (by omega)
      refine ⟨fun z => ⟨in_nI hk9, nx _ ?_⟩, fun z => ⟨in_nI hk9, nx _ ?_⟩⟩
      · rw [if_neg (fun y => nI_ge y (by omega) z)]
      · rw [if_pos (Nat.lt_of_not_le (fun y => z (nI_le y (by omega))))]
  unfold w_X3_found
  refine ⟨10, ?_⟩
  rw [su_q (show 161 ≠ 0 by decide), h6, h7]
  exact loop 9 0 _ rfl (fun q hq => by rw [su_q (by omega), su_q (by omega)]) (by rw [su_k (by decide)]; exact su_s) su_s (fun j hj => absurd hj (Nat.not_lt_zero j))
