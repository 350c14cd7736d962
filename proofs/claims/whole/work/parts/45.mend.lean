/-! ===== mend ===== -/
theorem swp_2 (p q x : Int32) : swp p q (swp p q x) = x := by
  unfold swp
  by_cases h1 : x = p
  · rw [if_pos h1]
    by_cases h2 : q = p
    · rw [if_pos h2, h1, h2]
    · rw [if_neg h2, if_pos rfl, h1]
  · rw [if_neg h1]
    by_cases h2 : x = q
    · rw [if_pos h2, if_pos rfl, h2]
    · rw [if_neg h2, if_neg h1, if_neg h2]
theorem swC_2 (C : Cty) (p q : Nat) : swC (swC C p q) p q = C := by
  have e : (fun i k => if i = 4 then plS (swC C p q) p q k else cd (swC C p q) i k) = cd C := by
    funext i k
    by_cases h : i = 4
    · subst h
      rw [if_pos rfl]
      show swp (nI p) (nI q) (if 4 = 4 then swp (nI p) (nI q) (cd C 4 k) else cd C 4 k) = cd C 4 k
      rw [if_pos rfl]
      exact swp_2 _ _ _
    · rw [if_neg h]
      show (if i = 4 then plS C p q k else cd C i k) = cd C i k
      rw [if_neg h]
  show (cn C, cf C, (fun i k => if i = 4 then plS (swC C p q) p q k else cd (swC C p q) i k), cu C, ct C, co C) = C
  rw [e]
def mdV (C : Cty) (l s p : Int32) (i j : Nat) : Int32 := popF (faC (swC C i j) (cu C) l s p)
def mdI (C : Cty) (l s p : Int32) (i : Nat) : Nat → Nat → Int32 × Int32 → Int32 × Int32
  | 0, _, S => S
  | m + 1, j, S => mdI C l s p i m (j + 1) (if S.2 ≤ mdV C l s p i j then S else (nI (10 * i + j), mdV C l s p i j))
def mdO (C : Cty) (l s p : Int32) : Nat → Nat → Int32 × Int32 → Int32 × Int32
  | 0, _, S => S
  | m + 1, i, S => mdO C l s p m (i + 1) (mdI C l s p i (9 - (i + 1)) (i + 1) S)
theorem mdI_s (C : Cty) (l s p : Int32) (i m j : Nat) (S : Int32 × Int32) : mdI C l s p i (m + 1) j S = mdI C l s p i m (j + 1) (if S.2 ≤ mdV C l s p i j then S else (nI (10 * i + j), mdV C l s p i j)) := by rw [mdI]
theorem mdO_s (C : Cty) (l s p : Int32) (m i : Nat) (S : Int32 × Int32) : mdO C l s p (m + 1) i S = mdO C l s p m (i + 1) (mdI C l s p i (9 - (i + 1)) (i + 1) S) := by rw [mdO]
theorem faC_rng {C D : Cty} (hC : COk C) (l s p : Int32) : ∃ f : Nat, f < 512 ∧ faC D (cu C) l s p = nI f := by
  obtain ⟨u, hu, -, eu⟩ := hC.up
  rw [eu]
  obtain ⟨f, hf, e⟩ := fa_nI (C := D) u l s p
  exact ⟨f, by omega, e⟩
theorem s_fallsIf {σ : St} {C : Cty} (hC : COk C) (hG : GX σ 8 C) {i j : Nat} (hi : i < 9) (hj : j < 9) {l s p : Int32} {P : Int32 → St → Prop} (h : ∀ σ', (∀ q, ¬ (8 ≤ q ∧ q < 16) → (q < 171 ∨ 176 ≤ q) → σ' q = σ q) → GX σ' 8 C → P (mdV C l s p i j) σ') : w_X7_fallsIfSwapped (nI i) (nI j) l s p σ P := by
  unfold w_X7_fallsIfSwapped
  refine s_swap ⟨by decide, by decide⟩ hC hG hi hj (fun τ t1 t2 => ?_)
  refine s_prepare ⟨by decide, by decide⟩ (swC_ok hC hi hj) t2 (fun τ1 p1 p2 p3 p4 p5 => ?_)
  have hG1 : GX τ1 8 (swC C i j) := t2.of (fun q b1 b2 => p1 q (by omega) (by omega) (by omega))
  have e9 : τ1 8 9 = cu C := hG1.2.2.1
  rw [e9]
  refine s_xgo (D := swC C i j) ⟨p2, p4, p5⟩ (fun τ2 o1 o2 o6 o7 => ?_)
  have hG2 : GX τ2 8 (swC C i j) := hG1.of (fun q b1 b2 => o1 q (by omega) (by omega) (by omega))
  refine s_swap ⟨by decide, by decide⟩ (swC_ok hC hi hj) hG2 hi hj (fun τ3 q1 q2 => ?_)
  rw [swC_2] at q2
  refine s_bitcF (faC_rng hC l s p) (h τ3 (fun q b1 b2 => ?_) q2)
  rw [q1 q (by omega) (by omega), o1 q (by omega) (by omega) (by omega), p1 q (by omega) (by omega) (by omega), t1 q (by omega) (by omega)]
theorem op_mend {σ : St} (h : Rel σ) (l s p w : Int32) : Two (w_X7_mend l s p w σ) (w_X8_mend l s p w) := by
  have h0 := h.su0 0
  obtain ⟨C, L, I, h⟩ := h
  have hn := h.1.1
  have hG := h.2.1
  unfold Two w_X7_mend
  have out : (w < 0 ∨ 1 < w) → w_X8_mend l s p w σ (fun r' σ2 => (-1000000002 : Int32) = r' ∧ Rel σ2) := by
    intro c
    unfold w_X8_mend
    refine s_mBall (fun _ => ⟨fun z => absurd z (by decide), fun _ => ?_⟩) (fun _ => ⟨fun _ => ⟨rfl, h0⟩, fun z => absurd rfl z⟩)
    exact s_in (fun c1 c2 => absurd c (by rintro (z | z); exact c1 z; exact c2 z)) (fun _ => ⟨fun z => absurd rfl z, fun _ => ⟨rfl, h0⟩⟩)
  refine s_xBall (fun hb => ⟨fun z => absurd z (by decide), fun _ => ⟨fun c => out (Or.inl c), fun c1 => ⟨fun c2 => ?_, fun c => out (Or.inr (Int32.not_le.mp c))⟩⟩⟩) (fun hb => ⟨fun _ => ?_, fun z => absurd rfl z⟩)
  · have inw : ∀ {τ : St} {Q : Int32 → St → Prop}, Q 1 τ → w_X8_in w 0 1 τ Q := fun hq => s_in (fun _ _ => hq) (fun z => absurd z (by rintro (z | z); exact c1 z; exact absurd c2 (Int32.not_le.mpr z)))
    refine s_county hG (fun c => ⟨fun _ => ?_, fun z => absurd z (by decide)⟩) (fun c => ⟨fun z => absurd rfl z, fun _ => ?_⟩)
    · refine s_copy ⟨by decide, by decide⟩ ⟨by decide, by decide⟩ (by decide) (fun τ0 t0 g0' => ⟨10, ?_⟩)
      have g0 := g0' C h.1 hG
      have hz0 : ∀ q, ¬ (8 ≤ q ∧ q < 16) → (q < 171 ∨ 176 ≤ q) → τ0 q = σ q := fun q b1 b2 => t0 q (by omega)
      -- the reference's walk from any state that the class leaves
      have mod : ∀ τ, (∀ q, ¬ (8 ≤ q ∧ q < 16) → (q < 171 ∨ 176 ≤ q) → τ q = σ q) → ∀ r : Int32, r = (if w = 0 then (mdO C l s p 9 0 (-1, 10)).1 else (mdO C l s p 9 0 (-1, 10)).2) → w_X8_mend l s p w τ (fun r' σ2 => r = r' ∧ Rel σ2) := by
        intro τ ht r hr
        unfold w_X8_mend
        refine s_mBall (fun _ => ⟨fun z => absurd z (by decide), fun _ => ?_⟩) (fun z => absurd hb z)
        refine inw ⟨fun _ => ?_, fun z => absurd z (by decide)⟩
        have hk3 : ∀ k, k ≠ 0 → su τ 185 0 0 185 k = σ 185 k := fun k b => by rw [su_k b, ht 185 (by omega) (by omega)]
        have hM3 : GM (su τ 185 0 0) 189 0 C := h.2.2.1.of hn (fun k _ _ => by rw [su_q (by decide), ht 189 (by omega) (by omega)])
        have hG3 : MG (su τ 185 0 0) C := h.2.2.2.1.of (hk3 7 (by decide)) (hk3 8 (by decide)) (hk3 9 (by decide)) (by rw [su_q (by decide), ht 188 (by omega) (by omega)])
        rw [(hG3.is1 c).1]
        refine ⟨fun _ => ⟨10, ?_⟩, fun z => absurd z (by decide)⟩
        generalize hρ0 : su τ 185 0 0 = ρ0 at hM3 hG3
        have mok : ∀ θ, (∀ q, q ≠ 185 → (q < 195 ∨ 201 < q) → θ q = ρ0 q) → (∀ k, k ≠ 26 → k ≠ 27 → k ≠ 28 → θ 185 k = ρ0 185 k) → GM θ 189 0 C ∧ MG θ C := fun θ b1 b2 => ⟨hM3.of hn (fun k _ _ => by rw [b1 189 (by decide) (by omega)]), hG3.of (b2 7 (by decide) (by decide) (by decide)) (b2 8 (by decide) (by decide) (by decide)) (b2 9 (by decide) (by decide) (by decide)) (b1 188 (by decide) (by omega))⟩
        have outer : ∀ m i S θ, i + m = 9 → (∀ q, q ≠ 185 → (q < 195 ∨ 201 < q) → θ q = ρ0 q) → (∀ k, k ≠ 26 → k ≠ 27 → k ≠ 28 → θ 185 k = ρ0 185 k) → (r = if w = 0 then (mdO C l s p m i S).1 else (mdO C l s p m i S).2) → w_X8_mend_b48 l s p w (fun r' σ2 => r = r' ∧ Rel σ2) (m + 1) S.1 S.2 (nI i) θ := by
          intro m
          induction m with
          | zero =>
            intro i S θ hi b1 b2 hS
            have : i = 9 := by omega
            subst this
            have hR : Rel θ := by
              refine ⟨C, L, I, h.tried (fun q hq hs => ?_) (fun k d1 d2 d3 d4 => ?_) ?_ ?_⟩
              · have hs' : ¬ ((8 ≤ q ∧ q < 16) ∨ (171 ≤ q ∧ q < 182) ∨ q = 185 ∨ (195 ≤ q ∧ q < 205)) := hs
                rw [b1 q (by omega) (by omega), ← hρ0, su_q (by omega), ht q (by omega) (by omega)]
              · rw [b2 k d2 d3 d4, ← hρ0, hk3 k d1]
              · exact h.2.2.2.2.2.2.2.2.2.2.2.2.1.of (by rw [b1 176 (by decide) (by omega), ← hρ0, su_q (by decide), ht 176 (by omega) (by omega)]) (by rw [b1 177 (by decide) (by omega), ← hρ0, su_q (by decide), ht 177 (by omega) (by omega)])
              · exact h.2.2.2.2.2.2.2.2.2.2.2.2.2.of (by rw [b1 178 (by decide) (by omega), ← hρ0, su_q (by decide), ht 178 (by omega) (by omega)])
            refine ⟨fun _ => ⟨fun e => ⟨?_, hR⟩, fun e => ⟨?_, hR⟩⟩, fun z => absurd (by decide) z⟩
            · rw [if_neg e] at hS; exact hS
            · rw [if_pos e] at hS; exact hS
          | succ m ih =>
            intro i S θ hi b1 b2 hS
            have inner : ∀ n j S θ, j + n = 9 → (∀ q, q ≠ 185 → (q < 195 ∨ 201 < q) → θ q = ρ0 q) → (∀ k, k ≠ 26 → k ≠ 27 → k ≠ 28 → θ 185 k = ρ0 185 k) → (r = if w = 0 then (mdO C l s p m (i + 1) (mdI C l s p i n j S)).1 else (mdO C l s p m (i + 1) (mdI C l s p i n j S)).2) → w_X8_mend_b61 l s p w (w_X8_mend_b48 l s p w (fun r' σ2 => r = r' ∧ Rel σ2) (m + 1)) (fun r' σ2 => r = r' ∧ Rel σ2) (n + 1) S.1 S.2 (nI i) (nI j) θ := by
              intro n
              induction n with
              | zero =>
                intro j S θ hj b1 b2 hS
                have : j = 9 := by omega
                subst this
                unfold w_X8_mend_b61
                rw [nI_1]
                exact ⟨fun _ => ih (i + 1) S θ (by omega) b1 b2 hS, fun z => absurd (by decide) z⟩
              | succ n ihn =>
                intro j S θ hj b1 b2 hS
                obtain ⟨hMθ, hGθ⟩ := mok θ b1 b2
                rw [mdI_s] at hS
                unfold w_X8_mend_b61
                refine ⟨fun z => absurd z (nI_ge (a := j) (b := 9) (by omega) (by decide)), fun _ => s_setsC h.1 c hMθ hGθ (by omega) (by omega) (fun θ2 d1 dS => ?_)⟩
                have e45 : θ2 189 45 = cu C := by rw [d1 189 (by decide) (by decide)]; exact hMθ.z.2.1
                rw [e45]
                refine s_mgo (swC_ok h.1 (by omega) (by omega)) c dS (fun θ3 q1 q2 q26 q27 q28 q197 q198 => s_ones ?_)
                have a10 : (10 : Int32) * nI i + nI j = nI (10 * i + j) := by
                  show nI 10 * nI i + nI j = _
                  rw [pk_mul, nI_add]
                rw [a10]
                have c1 : ∀ q, q ≠ 185 → (q < 195 ∨ 201 < q) → θ3 q = ρ0 q := fun q e1 e2 => by rw [q1 q e1 (by omega) (by omega) (by omega) (by omega) (by omega), d1 q (by omega) (by omega), b1 q e1 e2]
                have c2' : ∀ k, k ≠ 26 → k ≠ 27 → k ≠ 28 → θ3 185 k = ρ0 185 k := fun k e1 e2 e3 => by rw [q2 k e1 e2 e3, d1 185 (by decide) (by decide), b2 k e1 e2 e3]
                show (S.2 ≤ mdV C l s p i j → _) ∧ (¬ S.2 ≤ mdV C l s p i j → _)
                unfold w_X8_mend_b115 w_X8_mend_b131
                rw [nI_1]
                refine ⟨fun e => ⟨fun _ => ?_, fun z => absurd e z⟩, fun e => ⟨fun z => absurd z e, fun _ => ?_⟩⟩
                · rw [if_pos e] at hS
                  exact ihn (j + 1) S θ3 (by omega) c1 c2' hS
                · rw [if_neg e] at hS
                  exact ihn (j + 1) (nI (10 * i + j), mdV C l s p i j) θ3 (by omega) c1 c2' hS
            rw [mdO_s] at hS
            unfold w_X8_mend_b48
            refine ⟨fun z => absurd z (nI_ge (a := i) (b := 9) (by omega) (by decide)), fun _ => ⟨9 - (i + 1) + 1, ?_⟩⟩
            rw [nI_1]
            exact inner (9 - (i + 1)) (i + 1) S θ (by omega) b1 b2 hS
        exact outer 9 0 (-1, 10) ρ0 rfl (fun _ _ _ => rfl) (fun _ _ _ _ => rfl) hr
      have outer : ∀ m i S θ, i + m = 9 → (∀ q, ¬ (8 ≤ q ∧ q < 16) → (q < 171 ∨ 176 ≤ q) → θ q = σ q) → GX θ 8 C → mdO C l s p m i S = mdO C l s p 9 0 (-1, 10) → w_X7_mend_b57 l s p w (fun r σ1 => w_X8_mend l s p w σ1 (fun r' σ2 => r = r' ∧ Rel σ2)) (m + 1) S.1 S.2 (nI i) θ := by
        intro m
        induction m with
        | zero =>
          intro i S θ hi b1 b2 hS
          have : i = 9 := by omega
          subst this
          have hS' : S = mdO C l s p 9 0 (-1, 10) := hS
          refine ⟨fun _ => ⟨fun e => mod θ b1 _ ?_, fun e => mod θ b1 _ ?_⟩, fun z => absurd (by decide) z⟩
          · rw [if_neg e, hS']
          · rw [if_pos e, hS']
        | succ m ih =>
          intro i S θ hi b1 b2 hS
          have inner : ∀ n j S θ, j + n = 9 → (∀ q, ¬ (8 ≤ q ∧ q < 16) → (q < 171 ∨ 176 ≤ q) → θ q = σ q) → GX θ 8 C → mdO C l s p m (i + 1) (mdI C l s p i n j S) = mdO C l s p 9 0 (-1, 10) → w_X7_mend_b70 l s p w (w_X7_mend_b57 l s p w (fun r σ1 => w_X8_mend l s p w σ1 (fun r' σ2 => r = r' ∧ Rel σ2)) (m + 1)) (fun r σ1 => w_X8_mend l s p w σ1 (fun r' σ2 => r = r' ∧ Rel σ2)) (n + 1) S.1 S.2 (nI i) (nI j) θ := by
            intro n
            induction n with
            | zero =>
              intro j S θ hj b1 b2 hS
              have : j = 9 := by omega
              subst this
              unfold w_X7_mend_b70
              rw [nI_1]
              exact ⟨fun _ => ih (i + 1) S θ (by omega) b1 b2 hS, fun z => absurd (by decide) z⟩
            | succ n ihn =>
              intro j S θ hj b1 b2 hS
              rw [mdI_s] at hS
              unfold w_X7_mend_b70 w_X7_mend_b111
              have a10 : (10 : Int32) * nI i + nI j = nI (10 * i + j) := by
                show nI 10 * nI i + nI j = _
                rw [pk_mul, nI_add]
              rw [a10, nI_1 j]
              refine ⟨fun z => absurd z (nI_ge (a := j) (b := 9) (by omega) (by decide)), fun _ => s_fallsIf h.1 b2 (by omega) (by omega) (fun θ2 d1 d2 => ⟨fun e => ?_, fun e => ?_⟩)⟩
              · rw [if_pos e] at hS
                exact ihn (j + 1) S θ2 (by omega) (fun q e1 e2 => by rw [d1 q e1 e2, b1 q e1 e2]) d2 hS
              · rw [if_neg e] at hS
                exact ihn (j + 1) (nI (10 * i + j), mdV C l s p i j) θ2 (by omega) (fun q e1 e2 => by rw [d1 q e1 e2, b1 q e1 e2]) d2 hS
          rw [mdO_s] at hS
          unfold w_X7_mend_b57
          refine ⟨fun z => absurd z (nI_ge (a := i) (b := 9) (by omega) (by decide)), fun _ => ⟨9 - (i + 1) + 1, ?_⟩⟩
          rw [nI_1]
          exact inner (9 - (i + 1)) (i + 1) S θ (by omega) b1 b2 hS
      exact outer 9 0 (-1, 10) τ0 rfl hz0 g0 rfl
    · show w_X8_mend l s p w σ _
      unfold w_X8_mend
      refine s_mBall (fun _ => ⟨fun z => absurd z (by decide), fun _ => ?_⟩) (fun z => absurd hb z)
      refine inw ⟨fun _ => ?_, fun z => absurd z (by decide)⟩
      have e7 : su σ 185 0 0 185 7 = 0 := by rw [su_k (by decide)]; exact h.2.2.2.1.is0 c
      rw [e7]
      exact ⟨fun z => absurd rfl z, fun _ => ⟨rfl, h0⟩⟩
  · show w_X8_mend l s p w σ _
    unfold w_X8_mend
    exact s_mBall (fun z => absurd z hb) (fun _ => ⟨fun _ => ⟨rfl, h0⟩, fun z => absurd rfl z⟩)
