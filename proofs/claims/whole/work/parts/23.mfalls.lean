/-! ===== the reference's stack of those that fell ===== -/
theorem lt1 {x : Int32} : x < 1 ↔ x ≤ 0 := by
  rw [Int32.lt_iff_toInt_lt, Int32.le_iff_toInt_le]
  have h1 : (1 : Int32).toInt = 1 := by decide
  have h0 : (0 : Int32).toInt = 0 := by decide
  rw [h1, h0]; omega
theorem EqS.su {σ0 σ : St} (h : EqS σ0 σ) {q k : Nat} {v : Int32} (hq : q = 199 ∨ q = 200 ∨ q = 201) : EqS σ0 (su σ q k v) := by
  intro q' h1 h2 h3
  rw [su_q (by omega)]
  exact h q' h1 h2 h3
theorem m_iter {σ0 σ : St} {p1 p2 : Int32} {P : St → Prop} (ho : onOk (σ0 195)) (hE : EqS σ0 σ) {r e k p f : Nat} {n sd : Int32} {b : BS} (hr : r < 5) (he : e ≤ r) (hp : p < 9) (hk : k < 9) (hrow : tROW p = nI r) (hon : σ0 195 p = nI k) (h1 : σ 199 e = nI k) (h2 : σ 200 e = n) (h3 : σ 201 e = sd) (hsd : sd ≤ 1)
    (h : w_X8_falls_b122 p1 p2 (w_X8_falls_b29 p1 p2 P f) P (nI e) (n / 2) (if plT (nI r + 1) (tCOL p + sd) = -1 then -1 else σ0 195 (plT (nI r + 1) (tCOL p + sd)).toNatClampNeg) (pM (su σ 201 e (sd + 2)) b)) : w_X8_falls_b29 p1 p2 P (f + 1) (nI e) (pM σ b) := by
  have he9 : e < 10 := by omega
  have hv : vp_in (nI e) 10 := in_nI he9
  have hon' : (pM σ b) 195 = σ0 195 := hE 195 (by decide) (by decide) (by decide)
  unfold w_X8_falls_b29
  rw [cl_nI (by omega)]
  refine ⟨fun c => absurd c (nI_pos (by omega)), fun _ => ⟨hv, fun _ => ⟨hv, ?_⟩, fun c => absurd (show (pM σ b) 201 e ≤ 1 by show σ 201 e ≤ 1; rw [h3]; exact hsd) c⟩⟩
  have hkn : ¬ nI k = -1 := fun q => by
    have := nI_pos (n := k) (by omega)
    rw [q] at this; exact this (by decide)
  refine s_plateOf (p := p) hp ?_ ?_ ?_
  · rw [hon']; show σ0 195 p = σ 199 e; rw [hon, h1]
  · intro q hq z
    rw [hon'] at z
    have z2 : σ0 195 q = nI k := z.trans h1
    have := ho.2 q p (by omega) hp (z2.trans hon.symm) (by rw [z2]; exact hkn)
    omega
  · refine s_rowOf hp (s_colOf hp ⟨hv, ?_⟩)
    have e1 : (pM σ b) 201 e = sd := h3
    have e2 : (pM σ b) 200 e = n := h2
    rw [e1, hrow]
    have e3 : su (pM σ b) 201 e (sd + 2) = pM (su σ 201 e (sd + 2)) b := pM_c _ _ _ (Or.inl (by decide)) (by decide) (by decide)
    refine s_plateAt ?_
    rw [e1, e2]
    refine ⟨hv, hv, hv, fun c => ?_, fun c => ?_⟩
    · rw [if_neg c] at h
      refine ⟨?_, ?_⟩
      · rcases plT_rng (nI r + 1) (tCOL p + sd) with z | ⟨q, hq, z, -⟩
        · exact absurd z c
        · rw [z]; exact in_nI hq
      · rw [e3]
        have e4 : (pM (su σ 201 e (sd + 2)) b) 195 = σ0 195 := (hE.su (k := e) (v := sd + 2) (Or.inr (Or.inr rfl))) 195 (by decide) (by decide) (by decide)
        rw [e4]
        exact h
    · rw [if_pos c] at h
      rw [e3]
      exact h
def LvlC (σ0 : St) (p1 p2 : Int32) (P : St → Prop) (d r : Nat) : Prop := ∀ (e : Nat) (σ : St) (k p : Nat) (n : Int32) (b : BS), e ≤ r → EqS σ0 σ → k < 9 → p < 9 → tROW p = nI r → σ0 195 p = nI k → σ 199 e = nI k → σ 200 e = n → σ 201 e = -1 →
  (∀ σ' : St, EqS σ0 σ' → (∀ i, i < e → σ' 199 i = σ 199 i ∧ σ' 200 i = σ 200 i ∧ σ' 201 i = σ 201 i) → ∃ f, w_X8_falls_b29 p1 p2 P f (nI e + (-1)) (pM σ' (sdF (σ0 195) (σ0 196) d (nI k) (nI r) (tCOL p) n 1 (sdF (σ0 195) (σ0 196) d (nI k) (nI r) (tCOL p) n (-1) b)))) → ∃ f, w_X8_falls_b29 p1 p2 P f (nI e) (pM σ b)
theorem m_side {σ0 : St} {p1 p2 : Int32} {P : St → Prop} (ho : onOk (σ0 195)) {d r : Nat} (hr : r < 5) (hd : 5 ≤ r + d + 1) (ih : ∀ d', d = d' + 1 → r + 1 < 5 → LvlC σ0 p1 p2 P d' (r + 1)) {e k p : Nat} {σ : St} {n sd : Int32} {b : BS} (he : e ≤ r) (hE : EqS σ0 σ) (hk : k < 9) (hp : p < 9) (hrow : tROW p = nI r) (hon : σ0 195 p = nI k) (h1 : σ 199 e = nI k) (h2 : σ 200 e = n) (h3 : σ 201 e = sd) (hsd : sd ≤ 1)
    (hK : ∀ σ' : St, EqS σ0 σ' → (∀ i, i < e → σ' 199 i = σ 199 i ∧ σ' 200 i = σ 200 i ∧ σ' 201 i = σ 201 i) → σ' 199 e = nI k → σ' 200 e = n → σ' 201 e = sd + 2 → ∃ f, w_X8_falls_b29 p1 p2 P f (nI e) (pM σ' (sdF (σ0 195) (σ0 196) d (nI k) (nI r) (tCOL p) n sd b))) : ∃ f, w_X8_falls_b29 p1 p2 P f (nI e) (pM σ b) := by
  generalize hτ : su σ 201 e (sd + 2) = τ
  have hEτ : EqS σ0 τ := by rw [← hτ]; exact hE.su (Or.inr (Or.inr rfl))
  have t1 : τ 199 = σ 199 := by rw [← hτ]; exact su_q (by decide)
  have t2 : τ 200 = σ 200 := by rw [← hτ]; exact su_q (by decide)
  have t3 : τ 201 e = sd + 2 := by rw [← hτ]; exact su_s
  have t4 : ∀ i, i < e → τ 201 i = σ 201 i := fun i hi => by rw [← hτ]; exact su_k (by omega)
  have he9 : e < 10 := by omega
  have hv : vp_in (nI e) 10 := in_nI he9
  -- nothing happens, or one rocks: the same level goes on
  have same : ∀ b', b' = sdF (σ0 195) (σ0 196) d (nI k) (nI r) (tCOL p) n sd b → ∃ f, w_X8_falls_b29 p1 p2 P f (nI e) (pM τ b') := by
    intro b' hb
    rw [hb]
    exact hK τ hEτ (fun i hi => ⟨by rw [t1], by rw [t2], t4 i hi⟩) (by rw [t1]; exact h1) (by rw [t2]; exact h2) t3
  -- what the body wants
  have it : ∀ f, w_X8_falls_b122 p1 p2 (w_X8_falls_b29 p1 p2 P f) P (nI e) (n / 2) (if plT (nI r + 1) (tCOL p + sd) = -1 then -1 else σ0 195 (plT (nI r + 1) (tCOL p + sd)).toNatClampNeg) (pM τ b) → w_X8_falls_b29 p1 p2 P (f + 1) (nI e) (pM σ b) := by
    intro f hf
    rw [← hτ] at hf
    exact m_iter ho hE hr he hp hk hrow hon h1 h2 h3 hsd hf
  by_cases c0 : plT (nI r + 1) (tCOL p + sd) = -1
  · -- no plate there
    have hs : sdF (σ0 195) (σ0 196) d (nI k) (nI r) (tCOL p) n sd b = b := by
      unfold sdF stF
      rw [whoF_n c0]
      split
      · rfl
      · split
        · rfl
        · rw [if_pos rfl]
    obtain ⟨f, hf⟩ := same b hs.symm
    refine ⟨f + 1, it f ?_⟩
    rw [if_pos c0]
    exact ⟨fun _ => hf, fun c => absurd rfl c⟩
  · obtain ⟨q, hq, e1, e2, e3⟩ : ∃ q : Nat, q < 9 ∧ plT (nI r + 1) (tCOL p + sd) = nI q ∧ tROW q = nI r + 1 ∧ tCOL q = tCOL p + sd := by
      rcases plT_rng (nI r + 1) (tCOL p + sd) with z | z
      · exact absurd z c0
      · exact z
    have hw := fun up => whoF_p ho (up := up) hq e1
    rw [if_neg c0, e1, cl_nI (by omega)] at it
    by_cases c1 : σ0 195 q = -1
    · have hs : sdF (σ0 195) (σ0 196) d (nI k) (nI r) (tCOL p) n sd b = b := by
        unfold sdF stF
        rw [hw, if_pos c1]
        split
        · rfl
        · split
          · rfl
          · rw [if_pos rfl]
      obtain ⟨f, hf⟩ := same b hs.symm
      exact ⟨f + 1, it f ⟨fun _ => hf, fun c => absurd c1 c⟩⟩
    · obtain ⟨t, ht, et⟩ : ∃ t : Nat, t < 9 ∧ σ0 195 q = nI t := by
        rcases ho.1 q hq with z | z
        · exact absurd z c1
        · exact z
      have htv : vp_in (nI t) 9 := in_nI ht
      have htn : ¬ nI t = -1 := by rw [← et]; exact c1
      by_cases c2 : (b.1 >>> (nI t &&& 31)) &&& 1 = 1
      · have hwt : whoF (σ0 195) b.1 (nI r + 1) (tCOL p + sd) = nI t := by rw [hw, if_neg c1, et, if_pos c2]
        by_cases c3 : n / 2 < 1
        · have hs : sdF (σ0 195) (σ0 196) d (nI k) (nI r) (tCOL p) n sd b = b := by unfold sdF; rw [if_pos c3]
          obtain ⟨f, hf⟩ := same b hs.symm
          refine ⟨f + 1, it f ?_⟩
          rw [et]
          refine ⟨fun c => absurd c htn, fun _ => s_mhas ⟨fun _ => hf, fun _ => ⟨fun _ => hf, fun c => absurd (lt1.mp c3) c⟩⟩⟩
        · have hr5 : ¬ 5 ≤ nI r + 1 := fun z => by
            rw [nI_1] at z
            rcases Nat.lt_or_ge (r + 1) 5 with y | y
            · exact nI_ge (a := r + 1) (b := 5) y (by decide) z
            · have : r + 1 = 5 := by omega
              rw [nI_1, this, plT_5] at c0
              exact c0 rfl
          have hr1 : r + 1 < 5 := by
            rcases Nat.lt_or_ge (r + 1) 5 with y | y
            · exact y
            · rw [nI_1] at hr5; exact absurd (nI_le (a := 5) y (by omega)) hr5
          by_cases c4 : σ0 196 t ≤ n / 2
          · -- it falls: one level more
            obtain ⟨d', rfl⟩ : ∃ d', d = d' + 1 := ⟨d - 1, by omega⟩
            have hs : sdF (σ0 195) (σ0 196) (d' + 1) (nI k) (nI r) (tCOL p) n sd b = sdF (σ0 195) (σ0 196) d' (nI t) (nI (r + 1)) (tCOL q) (n / 2) 1 (sdF (σ0 195) (σ0 196) d' (nI t) (nI (r + 1)) (tCOL q) (n / 2) (-1) (dnF (nI t) (nI k) b)) := by
              rw [← tpF_sd]
              conv => lhs; unfold sdF
              rw [if_neg c3, if_neg hr5]
              unfold stF
              rw [hwt, if_neg htn, cl_nI (by omega), if_pos c4, nI_1, e3]
            generalize hρ : su (su (su τ 199 (e + 1) (nI t)) 200 (e + 1) (n / 2)) 201 (e + 1) (-1) = ρ
            have hEρ : EqS σ0 ρ := by
              rw [← hρ]
              exact ((hEτ.su (Or.inl rfl)).su (Or.inr (Or.inl rfl))).su (Or.inr (Or.inr rfl))
            have r1 : ρ 199 (e + 1) = nI t := by rw [← hρ]; simp [su_ap]
            have r2 : ρ 200 (e + 1) = n / 2 := by rw [← hρ]; simp [su_ap]
            have r3 : ρ 201 (e + 1) = -1 := by rw [← hρ]; simp [su_ap]
            have r4 : ∀ i, i < e + 1 → ρ 199 i = τ 199 i ∧ ρ 200 i = τ 200 i ∧ ρ 201 i = τ 201 i := by
              intro i hi
              have : i ≠ e + 1 := by omega
              rw [← hρ]; simp [su_ap, this]
            have lvl := ih d' rfl hr1 (e + 1) ρ t q (n / 2) (dnF (nI t) (nI k) b) (by omega) hEρ ht hq (by rw [e2, nI_1]) et r1 r2 r3 (fun σ' hE' hb' => ?_)
            · obtain ⟨f, hf⟩ := lvl
              refine ⟨f + 1, it f ?_⟩
              rw [et]
              refine ⟨fun c => absurd c htn, fun _ => s_mhas ⟨fun c => ?_, fun _ => ⟨fun c => absurd (lt1.mpr c) c3, fun _ => ⟨htv, fun c => ?_, fun _ => ⟨hv, ?_⟩⟩⟩⟩⟩
              · have c2' : ((pM τ b) 185 26 >>> (nI t &&& 31)) &&& 1 = 1 := c2
                rw [if_pos c2'] at c; exact absurd c (by decide)
              · have c' : n / 2 < τ 196 (nI t).toNatClampNeg := c
                rw [cl_nI (by omega), hEτ 196 (by decide) (by decide) (by decide)] at c'
                exact absurd c4 (Int32.not_le.mpr c')
              · have hk1 : (pM τ b) 199 (nI e).toNatClampNeg = nI k := by
                  rw [cl_nI (by omega)]
                  show τ 199 e = nI k
                  rw [t1]; exact h1
                rw [hk1]
                refine s_fallsNow htv ⟨?_, ?_, bS ⟨?_, ?_⟩⟩
                · rw [nI_1]; exact in_nI (by omega)
                · rw [nI_1]; exact in_nI (by omega)
                · rw [nI_1]; exact in_nI (by omega)
                · unfold w_X8_falls_b206
                  rw [nI_1, cl_nI (by omega), pM_c _ _ _ (Or.inl (by decide)) (by decide) (by decide), pM_c _ _ _ (Or.inl (by decide)) (by decide) (by decide), pM_c _ _ _ (Or.inl (by decide)) (by decide) (by decide), hρ]
                  exact hf
            · have hz : nI (e + 1) + (-1) = nI e := pk_m1 e
              rw [hz, ← hs]
              refine hK σ' hE' (fun i hi => ?_) ?_ ?_ ?_
              · obtain ⟨b1, b2, b3⟩ := hb' i (by omega)
                obtain ⟨g1, g2, g3⟩ := r4 i (by omega)
                rw [b1, b2, b3, g1, g2, g3, t1, t2]
                exact ⟨rfl, rfl, t4 i hi⟩
              · rw [(hb' e (by omega)).1, (r4 e (by omega)).1, t1]; exact h1
              · rw [(hb' e (by omega)).2.1, (r4 e (by omega)).2.1, t2]; exact h2
              · rw [(hb' e (by omega)).2.2, (r4 e (by omega)).2.2]; exact t3
          · -- it rocks
            have hs : sdF (σ0 195) (σ0 196) d (nI k) (nI r) (tCOL p) n sd b = rkF (nI t) b := by
              unfold sdF
              rw [if_neg c3, if_neg hr5]
              unfold stF
              rw [hwt, if_neg htn, cl_nI (by omega), if_neg c4]
            obtain ⟨f, hf⟩ := same _ hs.symm
            refine ⟨f + 1, it f ?_⟩
            rw [et]
            refine ⟨fun c => absurd c htn, fun _ => s_mhas ⟨fun c => ?_, fun _ => ⟨fun c => absurd (lt1.mpr c) c3, fun _ => ⟨htv, fun _ => s_rocksNow htv hf, fun c => ?_⟩⟩⟩⟩
            · have c2' : ((pM τ b) 185 26 >>> (nI t &&& 31)) &&& 1 = 1 := c2
              rw [if_pos c2'] at c; exact absurd c (by decide)
            · have c' : ¬ n / 2 < τ 196 (nI t).toNatClampNeg := c
              rw [cl_nI (by omega), hEτ 196 (by decide) (by decide) (by decide)] at c'
              exact absurd (Int32.not_lt.mp c') c4
      · have hs : sdF (σ0 195) (σ0 196) d (nI k) (nI r) (tCOL p) n sd b = b := by
          unfold sdF stF
          rw [hw, if_neg c1, et, if_neg c2]
          split
          · rfl
          · split
            · rfl
            · rw [if_pos rfl]
        obtain ⟨f, hf⟩ := same b hs.symm
        refine ⟨f + 1, it f ?_⟩
        rw [et]
        refine ⟨fun c => absurd c htn, fun _ => s_mhas ⟨fun _ => hf, fun c => ?_⟩⟩
        have c2' : ¬ ((pM τ b) 185 26 >>> (nI t &&& 31)) &&& 1 = 1 := c2
        rw [if_neg c2'] at c; exact absurd rfl c
theorem m_lvl {σ0 : St} {p1 p2 : Int32} {P : St → Prop} (ho : onOk (σ0 195)) : ∀ (d r : Nat), r < 5 → 5 ≤ r + d + 1 → LvlC σ0 p1 p2 P d r := by
  intro d
  induction d with
  | zero =>
    intro r hr hd e σ k p n b he hE hk hp hrow hon h1 h2 h3 hK
    refine m_side (d := 0) ho hr hd (fun d' q => by omega) he hE hk hp hrow hon h1 h2 h3 (by decide) (fun σ1 hE1 hb1 g1 g2 g3 => ?_)
    refine m_side (d := 0) ho hr hd (fun d' q => by omega) he hE1 hk hp hrow hon g1 g2 g3 (by decide) (fun σ2 hE2 hb2 j1 j2 j3 => ?_)
    obtain ⟨f, hf⟩ := hK σ2 hE2 (fun i hi => ⟨(hb2 i hi).1.trans (hb1 i hi).1, (hb2 i hi).2.1.trans (hb1 i hi).2.1, (hb2 i hi).2.2.trans (hb1 i hi).2.2⟩)
    refine ⟨f + 1, ?_⟩
    unfold w_X8_falls_b29
    rw [cl_nI (by omega)]
    refine ⟨fun c => absurd c (nI_pos (by omega)), fun _ => ⟨in_nI (by omega), fun c => ?_, fun _ => hf⟩⟩
    have c' : σ2 201 e ≤ 1 := c
    rw [j3] at c'; exact absurd c' (by decide)
  | succ d ih =>
    intro r hr hd e σ k p n b he hE hk hp hrow hon h1 h2 h3 hK
    have ih' : ∀ d', d + 1 = d' + 1 → r + 1 < 5 → LvlC σ0 p1 p2 P d' (r + 1) := fun d' q hr1 => by
      have : d' = d := by omega
      subst this
      exact ih (r + 1) hr1 (by omega)
    refine m_side ho hr hd ih' he hE hk hp hrow hon h1 h2 h3 (by decide) (fun σ1 hE1 hb1 g1 g2 g3 => ?_)
    refine m_side ho hr hd ih' he hE1 hk hp hrow hon g1 g2 g3 (by decide) (fun σ2 hE2 hb2 j1 j2 j3 => ?_)
    obtain ⟨f, hf⟩ := hK σ2 hE2 (fun i hi => ⟨(hb2 i hi).1.trans (hb1 i hi).1, (hb2 i hi).2.1.trans (hb1 i hi).2.1, (hb2 i hi).2.2.trans (hb1 i hi).2.2⟩)
    refine ⟨f + 1, ?_⟩
    unfold w_X8_falls_b29
    rw [cl_nI (by omega)]
    refine ⟨fun c => absurd c (nI_pos (by omega)), fun _ => ⟨in_nI (by omega), fun c => ?_, fun _ => hf⟩⟩
    have c' : σ2 201 e ≤ 1 := c
    rw [j3] at c'; exact absurd c' (by decide)
/-- falls(k, hit): the one in row r and its column falls, hit with n -/
theorem s_falls {σ : St} (ho : onOk (σ 195)) {r k p : Nat} (hr : r < 5) (hk : k < 9) (hp : p < 9) (hrow : tROW p = nI r) (hon : σ 195 p = nI k) {n : Int32} {b : BS} {P : St → Prop}
    (h : ∀ σ', EqS σ σ' → P (pM σ' (tpF (σ 195) (σ 196) 6 (nI k) (-1) (nI r) (tCOL p) n b))) : w_X8_falls (nI k) n (pM σ b) P := by
  unfold w_X8_falls
  refine s_fallsNow (in_nI hk) ?_
  rw [pM_c _ _ _ (Or.inl (by decide)) (by decide) (by decide), pM_c _ _ _ (Or.inl (by decide)) (by decide) (by decide), pM_c _ _ _ (Or.inl (by decide)) (by decide) (by decide)]
  have hE : EqS σ (su (su (su σ 199 0 (nI k)) 200 0 n) 201 0 (-1)) := by
    have h0 : EqS σ σ := fun q _ _ _ => rfl
    exact ((h0.su (Or.inl rfl)).su (Or.inr (Or.inl rfl))).su (Or.inr (Or.inr rfl))
  refine m_lvl ho 5 r hr (by omega) 0 _ k p n _ (by omega) hE hk hp hrow hon (by simp [su_ap]) (by simp [su_ap]) (by simp [su_ap]) (fun σ' hE' _ => ?_)
  refine ⟨1, ?_⟩
  unfold w_X8_falls_b29
  refine ⟨fun _ => ?_, fun c => absurd (by decide) c⟩
  rw [← tpF_sd]
  exact h σ' hE'
