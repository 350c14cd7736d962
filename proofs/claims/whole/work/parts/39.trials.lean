/-! ===== all the balls of a county ===== -/
def lpF (D : Cty) (line slant up : Int32) : Nat → Nat → Int32
  | 0, _ => 41
  | m + 1, r => if whoF (onC D) up (nI r) (line + nI r * (slant - 1)) = -1 then lpF D line slant up m (r + 1) else beC D (whoF (onC D) up (nI r) (line + nI r * (slant - 1))).toNatClampNeg + nI r * (cf D / 3)
theorem s_least {σ : St} {D : Cty} (hS : XS σ D) {line slant up : Int32} {P : Int32 → St → Prop} (h : P (lpF D line slant up 5 0) (su σ 171 5 up)) : w_X5_leastPace line slant up σ P := by
  obtain ⟨s1, s2, s3⟩ := hS
  have hEV : EV (σ 172) (σ 173) (onC D) (beC D) := ⟨s2, fun s hs _ => s3 s hs⟩
  have loop : ∀ m r, r + m = 5 → P (lpF D line slant up m r) (su σ 171 5 up) → w_X5_leastPace_b8 line slant up P (m + 1) (nI r) (su σ 171 5 up) := by
    intro m
    induction m with
    | zero =>
      intro r hr h
      have : r = 5 := by omega
      subst this
      exact ⟨fun _ => h, fun c => absurd (by decide) c⟩
    | succ m ih =>
      intro r hr h
      unfold w_X5_leastPace_b8
      refine ⟨fun c => absurd c (nI_ge (a := r) (b := 5) (by omega) (by decide)), fun _ => s_who ?_⟩
      rw [su_s, su_q (by decide), su_q (by decide), whoF_ev hEV, su_k (by decide), s1, nI_1]
      unfold lpF at h
      rcases whoF_rng (onC D) up (nI r) (line + nI r * (slant - 1)) with e | ⟨s, hs, e, -⟩
      · rw [e, if_pos rfl] at h
        rw [e]
        exact ⟨fun _ => ih (r + 1) (by omega) h, fun c => absurd rfl c⟩
      · rw [e, if_neg (nI_m1 (by omega)), cl_nI (by omega)] at h
        rw [e, cl_nI (by omega), s3 s hs]
        exact ⟨fun c => absurd c (nI_m1 (by omega)), fun _ => ⟨in_nI hs, h⟩⟩
  exact ⟨6, loop 5 0 rfl h⟩
theorem bearF_rng : ∀ (kd : Fin 4) (wt : Fin 21) (ch : Fin 10) (pl : Fin 9), ∃ a : Fin 1000, 1 ≤ a.val ∧ bearF (nI kd.val) (nI wt.val) (nI ch.val) (nI pl.val) = nI a.val := by
  intro kd wt ch pl
  have h : (bearF (nI kd.val) (nI wt.val) (nI ch.val) (nI pl.val)).toNatClampNeg < 1000 ∧ 1 ≤ (bearF (nI kd.val) (nI wt.val) (nI ch.val) (nI pl.val)).toNatClampNeg ∧ bearF (nI kd.val) (nI wt.val) (nI ch.val) (nI pl.val) = nI (bearF (nI kd.val) (nI wt.val) (nI ch.val) (nI pl.val)).toNatClampNeg := by
    revert kd wt ch pl
    decide +kernel
  exact ⟨⟨_, h.1⟩, h.2.1, h.2.2⟩
theorem beC_rng {C : Cty} (hC : COk C) (k : Nat) : ∃ a : Nat, 1 ≤ a ∧ a < 1000 ∧ beC C k = nI a := by
  unfold beC
  split
  · rename_i hk
    obtain ⟨⟨a, ha, ea⟩, ⟨b, hb1, hb, eb⟩, ⟨c, hc, ec⟩, ⟨d, hd, ed⟩, -⟩ := hC.2.1 k hk
    obtain ⟨x, hx, ex⟩ := bearF_rng ⟨a, by omega⟩ ⟨b, by omega⟩ ⟨c, by omega⟩ ⟨d, hd⟩
    exact ⟨x.val, hx, x.isLt, by rw [ea, eb, ec, ed]; exact ex⟩
  · exact ⟨1, by decide, by decide, rfl⟩
theorem drag_nI : ∀ a : Fin 10, ∃ d : Fin 4, nI a.val / 3 = nI d.val := by decide +kernel
theorem COk.drag {C : Cty} (h : COk C) (hc : ¬ cf C = -1) : ∃ d : Nat, d ≤ 3 ∧ cf C / 3 = nI d := by
  obtain ⟨a, ha, ea⟩ := h.flr hc
  obtain ⟨d, ed⟩ := drag_nI ⟨a, by omega⟩
  exact ⟨d.val, by omega, by rw [ea]; exact ed⟩
/-- a ball that comes more slowly than the least pace fells nobody -/
theorem least_no {C : Cty} (hC : COk C) (hc : ¬ cf C = -1) {line slant : Int32} {p : Nat} (hp : p ≤ 40) : ∀ (m r p' : Nat) (b : BS), r + m = 5 → (∀ d : Nat, cf C / 3 = nI d → d ≤ 3 → p' + r * d = p) → ¬ lpF C line slant b.1 m r ≤ nI p → (rwF (onC C) (beC C) (cf C / 3) line slant m r (nI p') b).1.1 = b.1 := by
  obtain ⟨d, hd, ed⟩ := hC.drag hc
  intro m
  induction m with
  | zero => intro r p' b hr hpp h; rfl
  | succ m ih =>
    intro r p' b hr hpp h
    have hpp' := hpp d ed hd
    have hrd : r * d ≤ 4 * 3 := Nat.mul_le_mul (by omega) hd
    unfold rwF mtF
    unfold lpF at h
    rcases whoF_rng (onC C) b.1 (nI r) (line + nI r * (slant - 1)) with e | ⟨s, hs, e, -⟩
    · rw [e, if_pos rfl] at h
      rw [e, if_pos rfl]
      dsimp only
      split
      · rename_i c
        rw [ed] at c ⊢
        have hdp : d < p' := by
          rcases Nat.lt_or_ge d p' with q | q
          · exact q
          · exfalso
            rcases Nat.eq_or_lt_of_le q with q | q
            · rw [q, pk_sub (Nat.le_refl _), Nat.sub_self] at c; exact absurd c (by decide)
            · exact absurd (Int32.lt_trans c (pk_sneg (by omega) q)) (Int32.lt_irrefl)
        rw [pk_sub (by omega), ← ed]
        refine ih (r + 1) (p' - d) b (by omega) (fun d' e' hd' => ?_) h
        have : d' = d := nI_inj (by omega) (by omega) (e'.symm.trans ed)
        subst this
        rw [Nat.add_mul]; omega
      · rfl
    · rw [e, if_neg (nI_m1 (by omega)), cl_nI (by omega)] at h
      rw [e, if_neg (nI_m1 (by omega)), cl_nI (by omega)]
      obtain ⟨a, ha1, ha, ea⟩ := beC_rng hC s
      rw [ea, ed, pk_mul, nI_add] at h
      have hlt : p < a + r * d := Nat.lt_of_not_le (fun z => h (nI_le z (by omega)))
      have hno : ¬ beC C s ≤ nI p' := by rw [ea]; exact nI_ge (by omega) (by omega)
      rw [if_neg hno]
      dsimp only
      have h0 : ¬ (0 : Int32) < 0 - cf C / 3 := by
        obtain ⟨x, hx, ex⟩ := hC.flr hc
        rw [ex]; exact drag_ok ⟨x, by omega⟩
      rw [if_neg h0]
      rfl
theorem fa_least {C : Cty} (hC : COk C) (hc : ¬ cf C = -1) {line slant up : Int32} {p : Nat} (hp : p ≤ 40) (h : ¬ lpF C line slant up 5 0 ≤ nI p) : faC C up line slant (nI p) = 0 := by
  unfold faC blC blF
  have e := least_no hC hc (line := line) (slant := slant) hp 5 0 p (up, 0, zf, m2) rfl (fun d _ _ => by omega) h
  rw [e]
  apply b_ext
  intro k hk
  rw [b_and, bt_not _ hk, b_0]
  cases bt up k <;> rfl
theorem s_fillT {σ : St} {C : Cty} (hC : COk C) (hc : ¬ cf C = -1) (hG : GX σ 0 C) (hT : TX σ C) {P : St → Prop}
    (h : ∀ σ', (∀ q, (q < 171 ∨ 178 ≤ q) → σ' q = σ q) → σ' 176 1 = 1 → (∀ b, b < 600 → σ' 177 b = faS C (cu C) b) → P σ') : w_X6_fill 0 σ P := by
  have fin : ∀ τ, (∀ q, (q < 171 ∨ q = 176 ∨ 178 ≤ q) → τ q = σ q) → (∀ b, b < 600 → τ 177 b = faS C (cu C) b) → P (su τ 176 1 1) := by
    intro τ a1 a2
    refine h _ (fun q hq => ?_) su_s (fun b hb => by rw [su_q (by decide)]; exact a2 b hb)
    rw [su_q (by omega), a1 q (by omega)]
  have loop : ∀ m i τ, i + m = 15 → (∀ q, (q < 171 ∨ q = 176 ∨ 178 ≤ q) → τ q = σ q) → XS τ C → (∀ b, b < i * 40 → τ 177 b = faS C (cu C) b) → w_X6_fill_b15 0 P (m + 1) (nI i) τ := by
    intro m
    induction m with
    | zero =>
      intro i τ hi a1 a2 a3
      have : i = 15 := by omega
      subst this
      unfold w_X6_fill_b15
      exact ⟨fun _ => fin τ a1 (fun b hb => a3 b (by omega)), fun c => absurd (by decide) c⟩
    | succ m ih =>
      intro i τ hi a1 a2 a3
      unfold w_X6_fill_b15
      refine ⟨fun c => absurd c (nI_ge (a := i) (b := 15) (by omega) (by decide)), fun _ => ?_⟩
      have e3 : nI i / 3 = nI (i / 3) := pk_div (d := 3) (by omega) (by decide) (by decide)
      have e4 : nI i - nI i / 3 * 3 = nI (i % 3) := pk_rem (d := 3) (by omega) (by decide) (by decide)
      have e9 : τ 0 9 = cu C := by rw [a1 0 (by omega)]; exact hG.2.2.1
      rw [e4, e3, e9]
      refine s_least a2 ⟨41, ?_⟩
      have inner : ∀ n j θ, j + n = 40 → (∀ q, (q < 171 ∨ q = 176 ∨ 178 ≤ q) → θ q = σ q) → XS θ C → (∀ b, b < i * 40 + j → θ 177 b = faS C (cu C) b) → w_X6_fill_b48 0 (w_X6_fill_b15 0 P (m + 1)) P (n + 1) (nI i) (nI (i / 3)) (nI (i % 3)) (lpF C (nI (i / 3)) (nI (i % 3)) (cu C) 5 0) (nI (j + 1)) θ := by
        intro n
        induction n with
        | zero =>
          intro j θ hj b1 b2 b3
          have : j = 40 := by omega
          subst this
          unfold w_X6_fill_b48
          refine ⟨fun _ => ?_, fun c => absurd (by decide) c⟩
          rw [nI_1]
          exact ih (i + 1) θ (by omega) b1 b2 (fun b hb => b3 b (by omega))
        | succ n ihn =>
          intro j θ hj b1 b2 b3
          have e9 : θ 0 9 = cu C := by rw [b1 0 (by omega)]; exact hG.2.2.1
          have ei : (nI i * 40 + nI (j + 1)) - 1 = nI (i * 40 + j) := by
            have : (nI i * 40 + nI (j + 1)) = nI (i * 40 + j + 1) := by
              show nI i * nI 40 + nI (j + 1) = _
              rw [pk_mul, nI_add, Nat.add_assoc]
            rw [this, nI_pred]
          have eS : faS C (cu C) (i * 40 + j) = faC C (cu C) (nI (i / 3)) (nI (i % 3)) (nI (j + 1)) := by
            rw [faS_fa, show (i * 40 + j) / 120 = i / 3 by omega, show (i * 40 + j) / 40 % 3 = i % 3 by omega, show 1 + (i * 40 + j) % 40 = j + 1 by omega]
          have nx : ∀ v θ2, v = faS C (cu C) (i * 40 + j) → (∀ q, (q < 171 ∨ q = 176 ∨ q = 177 ∨ 178 ≤ q) → θ2 q = θ q) → XS θ2 C → w_X6_fill_b93 0 (w_X6_fill_b15 0 P (m + 1)) (w_X6_fill_b48 0 (w_X6_fill_b15 0 P (m + 1)) P (n + 1)) P (nI i) (nI (i / 3)) (nI (i % 3)) (lpF C (nI (i / 3)) (nI (i % 3)) (cu C) 5 0) (nI (j + 1)) (nI (i * 40 + j)) v θ2 := by
            intro v θ2 hv c1 c2
            unfold w_X6_fill_b93
            rw [cl_nI (by omega), nI_1]
            refine ⟨in_nI (by omega), ihn (j + 1) _ (by omega) (fun q hq => by rw [su_q (by omega), c1 q (by omega), b1 q hq]) (c2.of (by rw [su_q (by decide)]) (su_q (by decide)) (su_q (by decide))) (fun b hb => ?_)⟩
            by_cases e : b = i * 40 + j
            · subst e; rw [su_s]; exact hv
            · rw [su_k e, c1 177 (by omega)]; exact b3 b (by omega)
          unfold w_X6_fill_b48
          rw [ei, e9]
          refine ⟨fun c => absurd c (nI_nlt (a := 40) (b := j + 1) (by omega) (by decide)), fun _ => ⟨fun c => ?_, fun c => ?_⟩⟩
          · refine s_xgo b2 (fun θ2 o1 o2 o6 o7 => nx _ θ2 eS.symm (fun q hq => o1 q (by omega) (by omega) (by omega)) (b2.of (o2 4 (by decide) (by decide) (by decide)) (o1 172 (by decide) (by decide) (by decide)) (o1 173 (by decide) (by decide) (by decide))))
          · exact nx _ θ (by rw [eS, fa_least hC hc (by omega) c]) (fun q hq => rfl) b2
      exact inner 40 0 _ rfl (fun q hq => by rw [su_q (by omega), a1 q hq]) (a2.of (su_k (by decide)) (su_q (by decide)) (su_q (by decide))) (fun b hb => by rw [su_q (by decide)]; exact a3 b (by omega))
  refine ⟨fun c => ?_, fun c => ?_⟩
  · refine s_prepare ⟨by decide, by decide⟩ hC hG (fun τ1 p1 p2 p3 p4 p5 => ⟨16, ?_⟩)
    exact loop 15 0 τ1 rfl (fun q hq => p1 q (by omega) (by omega) (by omega)) ⟨p2, p4, p5⟩ (fun b hb => by omega)
  · rcases hT with z | ⟨z1, z2⟩
    · exact absurd z c
    · exact h σ (fun _ _ => rfl) z1 z2
/-! numbers of balls -/
def nbF (k : Nat) : Int32 := nI (1000 * (k / 120) + 100 * (k / 40 % 3) + 1 + k % 40)
theorem s_mnum {k : Nat} (hk : k < 600) {σ : St} {P : Int32 → St → Prop} (h : P (nbF k) σ) : w_X8_numberOf (nI k) σ P := by
  unfold w_X8_numberOf
  have e1 : nI k / 120 = nI (k / 120) := pk_div (d := 120) (by omega) (by decide) (by decide)
  have e2 : nI k / 40 = nI (k / 40) := pk_div (d := 40) (by omega) (by decide) (by decide)
  have e3 : nI (k / 40) - nI (k / 40) / 3 * 3 = nI (k / 40 % 3) := pk_rem (d := 3) (by omega) (by decide) (by decide)
  have e4 : nI k - nI k / 40 * 40 = nI (k % 40) := pk_rem (d := 40) (by omega) (by decide) (by decide)
  rw [e4, e1, e2, e3]
  show P (nI 1000 * nI (k / 120) + nI 100 * nI (k / 40 % 3) + 1 + nI (k % 40)) σ
  rw [pk_mul, pk_mul, nI_add, nI_1, nI_add]
  exact h
theorem s_xnum {k : Nat} (hk : k < 600) {σ : St} {P : Int32 → St → Prop} (h : P (nbF k) σ) : w_X7_numberOf (nI k) σ P := by
  unfold w_X7_numberOf
  refine ⟨fun _ => ?_, fun c => absurd (nI_pos' (by omega)) c⟩
  have e2 : nI k / 40 = nI (k / 40) := pk_div (d := 40) (by omega) (by decide) (by decide)
  have e1 : nI (k / 40) / 3 = nI (k / 40 / 3) := pk_div (d := 3) (by omega) (by decide) (by decide)
  have e3 : nI (k / 40) - nI (k / 40) / 3 * 3 = nI (k / 40 % 3) := pk_rem (d := 3) (by omega) (by decide) (by decide)
  have e4 : nI k - nI k / 40 * 40 = nI (k % 40) := pk_rem (d := 40) (by omega) (by decide) (by decide)
  rw [e4, e2, e3, e1]
  show P (nI 1000 * nI (k / 40 / 3) + nI 100 * nI (k / 40 % 3) + nI (k % 40) + 1) σ
  rw [pk_mul, pk_mul, nI_add, nI_add, nI_1]
  have : 1000 * (k / 40 / 3) + 100 * (k / 40 % 3) + k % 40 + 1 = 1000 * (k / 120) + 100 * (k / 40 % 3) + 1 + k % 40 := by omega
  rw [this]
  exact h
theorem s_xnum0 {σ : St} {P : Int32 → St → Prop} (h : P (-1) σ) : w_X7_numberOf (-1) σ P := ⟨fun c => absurd c (by decide), fun _ => h⟩
/-! the reference's tries -/
def TRY (σ τ : St) : Prop := (∀ q, q ≠ 185 → (q < 197 ∨ 201 < q) → τ q = σ q) ∧ ∀ k, k ≠ 26 → k ≠ 27 → k ≠ 28 → τ 185 k = σ 185 k
theorem TRY.rf (σ : St) : TRY σ σ := ⟨fun _ _ _ => rfl, fun _ _ _ _ => rfl⟩
theorem s_goesBy {σ τ : St} {C : Cty} (hC : COk C) (hc : ¬ cf C = -1) (hS : MS σ C) (hT : TRY σ τ) {set : Int32} {b : Nat} (hb : b < 600) {P : Int32 → St → Prop} (h : ∀ τ', TRY σ τ' → P (faS C set b) τ') : w_X8_goesBy set (nI b) τ P := by
  unfold w_X8_goesBy
  have e1 : nI b / 120 = nI (b / 120) := pk_div (d := 120) (by omega) (by decide) (by decide)
  have e2 : nI b / 40 = nI (b / 40) := pk_div (d := 40) (by omega) (by decide) (by decide)
  have e3 : nI (b / 40) - nI (b / 40) / 3 * 3 = nI (b / 40 % 3) := pk_rem (d := 3) (by omega) (by decide) (by decide)
  have e4 : nI b - nI b / 40 * 40 = nI (b % 40) := pk_rem (d := 40) (by omega) (by decide) (by decide)
  have e5 : (1 : Int32) + nI (b % 40) = nI (1 + b % 40) := nI_add 1 (b % 40)
  rw [e4, e1, e2, e3, e5]
  refine s_mgo hC hc (hS.of (hT.1 195 (by decide) (by omega)) (hT.1 196 (by decide) (by omega)) (hT.2 8 (by decide) (by decide) (by decide))) (fun ρ r1 r2 r26 r27 r28 r197 r198 => ?_)
  rw [← faS_fa]
  exact h ρ ⟨fun q b1 b2 => by rw [r1 q b1 (by omega) (by omega) (by omega) (by omega) (by omega)]; exact hT.1 q b1 b2, fun k b1 b2 b3 => by rw [r2 k b1 b2 b3]; exact hT.2 k b1 b2 b3⟩
theorem TRY.cu {σ τ : St} (h : TRY σ τ) : τ 189 45 = σ 189 45 := by rw [h.1 189 (by decide) (by omega)]
theorem TRY.many {σ τ : St} (h : TRY σ τ) : τ 185 9 = σ 185 9 := h.2 9 (by decide) (by decide) (by decide)
