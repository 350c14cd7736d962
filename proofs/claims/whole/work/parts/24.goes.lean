/-! ===== the reference's way of a ball ===== -/
def fl (i : Nat) (f : Nat → Int32) (v : Int32) : Nat → Int32 := fun k => if k < i then v else f k
theorem fl_0 (f : Nat → Int32) (v : Int32) : fl 0 f v = f := by funext k; simp [fl]
theorem fl_s (i : Nat) (f : Nat → Int32) (v : Int32) : upd (fl i f v) i v = fl (i + 1) f v := by
  funext k
  unfold upd fl
  by_cases h : k = i
  · subst h; simp
  · by_cases h2 : k < i
    · rw [if_neg h, if_pos h2, if_pos (by omega)]
    · rw [if_neg h, if_neg h2, if_neg (by omega)]
theorem fl_in {i k : Nat} {f : Nat → Int32} {v : Int32} (h : k < i) : fl i f v k = v := if_pos h
theorem i32_cs (a b : Int32) : a - (b + 1) = a - b - 1 := by grind
theorem i32_col (l c : Int32) (r : Nat) : l + nI r * c + c = l + nI (r + 1) * c := by
  rw [nI_succ]; grind
theorem su_id {σ : St} {q k : Nat} {v : Int32} (h : σ q k = v) : su σ q k v = σ := by
  funext j i
  rw [su_ap]
  split
  · rename_i h1; subst h1; split
    · rename_i h2; subst h2; exact h.symm
    · rfl
  · rfl
theorem su_su {σ : St} {q k : Nat} {v w : Int32} : su (su σ q k v) q k w = su σ q k w := by
  funext j i
  simp only [su_ap]
  by_cases h1 : j = q <;> by_cases h2 : i = k <;> simp [h1, h2]
theorem s_goes_loop {σ0 : St} (ho : onOk (σ0 195)) (hst0 : σ0 185 28 = -1) (hdr : ¬ 0 < (0 : Int32) - σ0 185 8 / 3) (up line slant pace : Int32) (P : Int32 → St → Prop) : ∀ (m r : Nat) (n : Int32) (b : BS) (σ : St), r + m = 5 → EqS σ0 σ →
    (∀ σ', EqS σ0 σ' → P (up &&& ((rwF (σ0 195) (σ0 196) (σ0 185 8 / 3) line slant m r n b).1.1 ^^^ -1)) (pM (su σ' 185 28 (rwF (σ0 195) (σ0 196) (σ0 185 8 / 3) line slant m r n b).2) (rwF (σ0 195) (σ0 196) (σ0 185 8 / 3) line slant m r n b).1)) →
    w_X8_goes_b58 up line slant pace P (m + 2) (line + nI r * (slant - 1)) n (nI r) (pM σ b) := by
  intro m
  induction m with
  | zero =>
    intro r n b σ hr hE h
    have e : r = 5 := by omega
    subst e
    have hst : σ 185 28 = -1 := by rw [hE 185 (by decide) (by decide) (by decide)]; exact hst0
    unfold w_X8_goes_b58
    refine ⟨fun _ => ?_, fun c => absurd (by decide) c⟩
    unfold w_X8_goes_b220
    have h2 := h σ hE
    unfold rwF at h2
    rw [su_id hst] at h2
    exact h2
  | succ m ih =>
    intro r n b σ hr hE h
    have h185 : σ 185 = σ0 185 := hE 185 (by decide) (by decide) (by decide)
    have hst : σ 185 28 = -1 := by rw [h185]; exact hst0
    have h195 : σ 195 = σ0 195 := hE 195 (by decide) (by decide) (by decide)
    have h196 : σ 196 = σ0 196 := hE 196 (by decide) (by decide) (by decide)
    -- the end of a row: pace n1 is left, the ball has not stayed
    have fin : ∀ (n1 : Int32) (b1 : BS) (σ1 : St), EqS σ0 σ1 → mtF (σ0 195) (σ0 196) (nI r) (line + nI r * (slant - 1)) n b = (n1, b1) → w_X8_goes_b169 up line slant pace (w_X8_goes_b58 up line slant pace P (m + 2)) P (line + nI r * (slant - 1)) n1 (nI r) (pM σ1 b1) := by
      intro n1 b1 σ1 hE1 hm
      have h185' : σ1 185 = σ0 185 := hE1 185 (by decide) (by decide) (by decide)
      have hst1 : σ1 185 28 = -1 := by rw [h185']; exact hst0
      have hfl : (pM σ1 b1) 185 8 = σ0 185 8 := by show σ1 185 8 = _; rw [h185']
      unfold w_X8_goes_b169
      rw [hfl]
      refine ⟨fun c => absurd hst1 c, fun _ => ⟨fun c => ?_, fun c => ?_⟩⟩
      · unfold w_X8_goes_b199 w_X8_goes_b203
        rw [su_id (q := 185) (k := 28) rfl, i32_col, nI_1]
        refine ih (r + 1) _ _ σ1 (by omega) hE1 (fun σ' hE' => ?_)
        have h2 := h σ' hE'
        unfold rwF at h2
        rw [hm] at h2
        rw [if_pos c] at h2
        exact h2
      · unfold w_X8_goes_b203
        rw [pM_c _ _ _ (Or.inr ⟨by decide, by decide⟩) (by decide) (by decide), nI_1]
        have h2 := h σ1 hE1
        unfold rwF at h2
        rw [hm] at h2
        rw [if_neg c] at h2
        unfold w_X8_goes_b58
        refine ⟨fun _ => ?_, fun _ => ⟨fun _ => ?_, fun c2 => ?_⟩⟩
        · unfold w_X8_goes_b220; exact h2
        · unfold w_X8_goes_b220; exact h2
        · exfalso
          have e3 : pM (su σ1 185 28 (nI r)) b1 185 28 = nI r := by rw [pM_f _ _ (by decide) (by decide), su_s]
          have c4 : ¬ nI r < 0 := nI_pos (by omega)
          rw [e3.symm.trans c2] at c4
          exact c4 (by decide)
    unfold w_X8_goes_b58
    refine ⟨fun c => absurd c (nI_ge (a := r) (b := 5) (by omega) (by decide)), fun _ => ⟨fun c => absurd hst c, fun _ => ?_⟩⟩
    refine s_plateAt ⟨fun c => ?_, fun c => ?_⟩
    · obtain ⟨p, hp, e1, e2, e3⟩ : ∃ p : Nat, p < 9 ∧ plT (nI r) (line + nI r * (slant - 1)) = nI p ∧ tROW p = nI r ∧ tCOL p = line + nI r * (slant - 1) := by
        rcases plT_rng (nI r) (line + nI r * (slant - 1)) with z | z
        · exact absurd z c
        · exact z
      rw [e1]
      refine ⟨in_nI hp, ?_⟩
      rw [cl_nI (by omega)]
      have e195 : (pM σ b) 195 p = σ0 195 p := by show σ 195 p = _; rw [h195]
      rw [e195]
      have hw := whoF_p ho (up := b.1) hp e1
      unfold w_X8_goes_b98
      by_cases c1 : σ0 195 p = -1
      · refine ⟨fun _ => ?_, fun c2 => absurd c1 c2⟩
        refine fin n b σ hE ?_
        unfold mtF
        rw [hw, if_pos c1, if_pos rfl]
      · obtain ⟨t, ht, et⟩ : ∃ t : Nat, t < 9 ∧ σ0 195 p = nI t := by
          rcases ho.1 p hp with z | z
          · exact absurd z c1
          · exact z
        rw [et] at hw c1 ⊢
        rw [if_neg c1] at hw
        have htv : vp_in (nI t) 9 := in_nI ht
        refine ⟨fun c2 => absurd c2 c1, fun _ => s_mhas ?_⟩
        have eup : (pM σ b) 185 26 = b.1 := rfl
        rw [eup]
        by_cases c2 : (b.1 >>> (nI t &&& 31)) &&& 1 = 1
        · rw [if_pos c2] at hw ⊢
          have e196 : (pM σ b) 196 (nI t).toNatClampNeg = σ0 196 t := by rw [cl_nI (by omega)]; show σ 196 t = _; rw [h196]
          refine ⟨fun z => absurd z (by decide), fun _ => ⟨htv, ?_⟩⟩
          rw [e196]
          refine ⟨fun c3 => ?_, fun c3 => ?_⟩
          · -- it rocks
            have hm : mtF (σ0 195) (σ0 196) (nI r) (line + nI r * (slant - 1)) n b = (0, rkF (nI t) b) := by
              unfold mtF
              rw [hw, if_neg c1, cl_nI (by omega), if_neg (Int32.not_le.mpr c3)]
            refine s_rocksNow htv ?_
            rw [pM_c _ _ _ (Or.inr ⟨by decide, by decide⟩) (by decide) (by decide)]
            unfold w_X8_goes_b169
            have e3' : pM (su σ 185 28 (nI r)) (rkF (nI t) b) 185 28 = nI r := by rw [pM_f _ _ (by decide) (by decide), su_s]
            have hn1 : ¬ nI r = -1 := fun q => by
              have c4 : ¬ nI r < 0 := nI_pos (by omega)
              rw [q] at c4; exact c4 (by decide)
            rw [e3']
            refine ⟨fun _ => ?_, fun z => absurd z hn1⟩
            unfold w_X8_goes_b199 w_X8_goes_b203
            rw [e3', su_id e3', nI_1]
            have h2 := h σ hE
            unfold rwF at h2
            rw [hm] at h2
            rw [if_neg hdr] at h2
            unfold w_X8_goes_b58
            refine ⟨fun _ => ?_, fun _ => ⟨fun _ => ?_, fun c2 => absurd (e3'.symm.trans c2) hn1⟩⟩
            · unfold w_X8_goes_b220; exact h2
            · unfold w_X8_goes_b220; exact h2
          · -- it falls
            refine s_falls (σ := σ) (by rw [h195]; exact ho) (r := r) (p := p) (by omega) ht hp e2 (by rw [h195]; exact et) (fun σ' hE' => ?_)
            have hE2 : EqS σ0 σ' := fun q a1 a2 a3 => (hE' q a1 a2 a3).trans (hE q a1 a2 a3)
            refine ⟨htv, bI ?_⟩
            have e196' : ∀ B : BS, (pM σ' B) 196 (nI t).toNatClampNeg = σ0 196 t := fun B => by rw [cl_nI (by omega)]; show σ' 196 t = _; rw [hE2 196 (by decide) (by decide) (by decide)]
            rw [e196', i32_cs]
            refine fin _ _ σ' hE2 ?_
            unfold mtF
            rw [hw, if_neg c1, cl_nI (by omega), if_pos (Int32.not_lt.mp c3), h195, h196, e3]
        · rw [if_neg c2] at hw ⊢
          refine ⟨fun _ => ?_, fun z => absurd rfl z⟩
          refine fin n b σ hE ?_
          unfold mtF
          rw [hw, if_pos rfl]
    · unfold w_X8_goes_b98
      refine ⟨fun _ => ?_, fun c2 => absurd rfl c2⟩
      refine fin n b σ hE ?_
      unfold mtF
      rw [whoF_n c, if_pos rfl]
theorem s_goes {σ : St} (ho : onOk (σ 195)) (hdr : ¬ 0 < (0 : Int32) - σ 185 8 / 3) {up line slant pace : Int32} {P : Int32 → St → Prop}
    (h : ∀ σ', EqS σ σ' → P (up &&& ((blF (σ 195) (σ 196) (σ 185 8 / 3) line slant pace up (fl 9 (σ 197) 0) (fl 9 (σ 198) (-2))).1.1 ^^^ -1)) (pM (su σ' 185 28 (blF (σ 195) (σ 196) (σ 185 8 / 3) line slant pace up (fl 9 (σ 197) 0) (fl 9 (σ 198) (-2))).2) (blF (σ 195) (σ 196) (σ 185 8 / 3) line slant pace up (fl 9 (σ 197) 0) (fl 9 (σ 198) (-2))).1)) : w_X8_goes up line slant pace σ P := by
  unfold blF at h
  have loop : ∀ m i, i + m = 9 → w_X8_goes_b18 up line slant pace P (m + 1) (nI i) (pM (su σ 185 28 (-1)) (up, 0, fl i (σ 197) 0, fl i (σ 198) (-2))) := by
    intro m
    induction m with
    | zero =>
      intro i hi
      have : i = 9 := by omega
      subst this
      unfold w_X8_goes_b18
      refine ⟨fun _ => ⟨7, ?_⟩, fun c => absurd (by decide) c⟩
      have a1 : su σ 185 28 (-1) 195 = σ 195 := su_q (by decide)
      have a2 : su σ 185 28 (-1) 196 = σ 196 := su_q (by decide)
      have a3 : su σ 185 28 (-1) 185 8 = σ 185 8 := su_k (by decide)
      have hl := s_goes_loop (σ0 := su σ 185 28 (-1)) (by rw [a1]; exact ho) su_s (by rw [a3]; exact hdr) up line slant pace P 5 0 pace (up, 0, fl 9 (σ 197) 0, fl 9 (σ 198) (-2)) (su σ 185 28 (-1)) rfl (fun _ _ _ _ => rfl) (fun σ' hE' => by
        rw [a1, a2, a3]
        have hE2 : EqS σ (su σ' 185 28 (σ 185 28)) := fun q b1 b2 b3 => by
          by_cases hq : q = 185
          · subst hq
            funext k
            by_cases hk : k = 28
            · subst hk; exact su_s
            · rw [su_k hk, hE' 185 (by decide) (by decide) (by decide), su_k hk]
          · rw [su_q hq, hE' q b1 b2 b3, su_q hq]
        have h2 := h _ hE2
        rw [su_su] at h2
        exact h2)
      have e0 : line + nI 0 * (slant - 1) = line := by rw [nI_0]; grind
      rw [e0] at hl
      exact hl
    | succ m ih =>
      intro i hi
      unfold w_X8_goes_b18
      refine ⟨fun c => absurd c (nI_ge (a := i) (b := 9) (by omega) (by decide)), fun _ => ⟨in_nI (by omega), in_nI (by omega), ?_⟩⟩
      rw [cl_nI (by omega), pM_3, pM_4, nI_1]
      show w_X8_goes_b18 up line slant pace P (m + 1) (nI (i + 1)) (pM (su σ 185 28 (-1)) (up, 0, upd (fl i (σ 197) 0) i 0, upd (fl i (σ 198) (-2)) i (-2)))
      rw [fl_s, fl_s]
      exact ih (i + 1) (by omega)
  refine ⟨10, ?_⟩
  have e : su (su (su σ 185 26 up) 185 27 (0 : Int32)) 185 28 (-1 : Int32) = pM (su σ 185 28 (-1)) (up, 0, fl 0 (σ 197) 0, fl 0 (σ 198) (-2)) := by
    rw [fl_0, fl_0]
    funext j k
    unfold pM
    simp only [su_ap]
    by_cases h1 : j = 185 <;> by_cases h2 : j = 197 <;> by_cases h3 : j = 198 <;> by_cases h4 : k = 26 <;> by_cases h5 : k = 27 <;> by_cases h6 : k = 28 <;> simp [h1, h2, h3, h4, h5, h6]
  rw [e]
  exact loop 9 0 rfl
