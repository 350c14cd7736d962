/-! ===== a ball that is thrown ===== -/
theorem inv_bl {on bear : Nat → Int32} (I : BS → Prop) (hr : ∀ (s : Nat) (b : BS), s < 9 → I b → I (rkF (nI s) b)) (hd : ∀ (s : Nat) (y : Int32) (b : BS), s < 9 → bt b.1 s = true → (y = -1 ∨ ∃ t : Nat, t < 9 ∧ y = nI t ∧ ∃ p, p < 9 ∧ on p = nI t) → I b → I (dnF (nI s) y b)) (drag line slant pace up : Int32) (ro tk : Nat → Int32) (h0 : I (up, 0, ro, tk)) : I (blF on bear drag line slant pace up ro tk).1 := by
  have st : ∀ (d : Nat), (∀ (s : Nat) (y row col n : Int32) (b : BS), s < 9 → bt b.1 s = true → (∃ p, p < 9 ∧ on p = nI s) → (y = -1 ∨ ∃ t : Nat, t < 9 ∧ y = nI t ∧ ∃ p, p < 9 ∧ on p = nI t) → I b → I (tpF on bear d (nI s) y row col n b)) → ∀ (s : Nat) (row col n : Int32) (b : BS), s < 9 → (∃ p, p < 9 ∧ on p = nI s) → I b → I (stF (tpF on bear d) on bear (nI s) row col n b) := by
    intro d hF s row col n b hs hp h
    unfold stF
    rcases whoF_rng on b.1 row col with e | ⟨t, ht, e, p, hp2, -, -, ep⟩
    · rw [e, if_pos rfl]; exact h
    · have hb := whoF_bt ht e
      rw [e, if_neg (nI_m1 (by omega))]
      split
      · exact hF t (nI s) row col n b ht hb ⟨p, hp2, ep⟩ (Or.inr ⟨s, hs, rfl, hp⟩) h
      · exact hr t b ht h
  have tp : ∀ (d s : Nat) (y row col n : Int32) (b : BS), s < 9 → bt b.1 s = true → (∃ p, p < 9 ∧ on p = nI s) → (y = -1 ∨ ∃ t : Nat, t < 9 ∧ y = nI t ∧ ∃ p, p < 9 ∧ on p = nI t) → I b → I (tpF on bear d (nI s) y row col n b) := by
    intro d
    induction d with
    | zero => intro s y row col n b _ _ _ _ h; exact h
    | succ d ih =>
      intro s y row col n b hs hb hp hy h
      have h1 := hd s y b hs hb hy h
      unfold tpF
      split
      · exact h1
      · split
        · exact h1
        · exact st d ih s _ _ _ _ hs hp (st d ih s _ _ _ _ hs hp h1)
  have rw_ : ∀ (m r : Nat) (n : Int32) (b : BS), I b → I (rwF on bear drag line slant m r n b).1 := by
    intro m
    induction m with
    | zero => intro r n b h; exact h
    | succ m ih =>
      intro r n b h
      have hm : I (mtF on bear (nI r) (line + nI r * (slant - 1)) n b).2 := by
        unfold mtF
        rcases whoF_rng on b.1 (nI r) (line + nI r * (slant - 1)) with e | ⟨t, ht, e, p, hp2, -, -, ep⟩
        · rw [e, if_pos rfl]; exact h
        · have hb := whoF_bt ht e
          rw [e, if_neg (nI_m1 (by omega))]
          split
          · exact tp 6 t _ _ _ _ b ht hb ⟨p, hp2, ep⟩ (Or.inl rfl) h
          · exact hr t b ht h
      unfold rwF
      split
      · exact ih _ _ _ hm
      · exact hm
  exact rw_ 5 0 pace _ h0
def m2 : Nat → Int32 := fun _ => -2
/-- the ball, as it goes through a county -/
def blC (C : Cty) (up line slant pace : Int32) : BS × Int32 := blF (onC C) (beC C) (cf C / 3) line slant pace up zf m2
def faC (C : Cty) (up line slant pace : Int32) : Int32 := up &&& ((blC C up line slant pace).1.1 ^^^ -1)
theorem onC_lt {C : Cty} (hC : COk C) {p s : Nat} (hs : s < 9) (e : onC C p = nI s) : s < cn C := by
  have hn := hC.1
  rcases onC_rng (C := C) p with z | ⟨k, hk, z⟩
  · exact absurd (e.symm.trans z) (nI_m1 (by omega))
  · have : k = s := nI_inj (by omega) (by omega) (z.symm.trans e)
    omega
theorem blC_inv {C : Cty} (hC : COk C) (up line slant pace : Int32) : ∀ k, ((blC C up line slant pace).1.2.2.2 k = -2 ∧ bt (blC C up line slant pace).1.1 k = bt up k) ∨ (((blC C up line slant pace).1.2.2.2 k = -1 ∨ ∃ a : Nat, a < cn C ∧ (blC C up line slant pace).1.2.2.2 k = nI a) ∧ bt (blC C up line slant pace).1.1 k = false ∧ bt up k = true ∧ k < 9) := by
  unfold blC
  refine inv_bl (fun b => ∀ k, (b.2.2.2 k = -2 ∧ bt b.1 k = bt up k) ∨ ((b.2.2.2 k = -1 ∨ ∃ a : Nat, a < cn C ∧ b.2.2.2 k = nI a) ∧ bt b.1 k = false ∧ bt up k = true ∧ k < 9)) (fun s b hs h => h) (fun s y b hs hb hy h k => ?_) _ _ _ _ _ _ _ (fun k => Or.inl ⟨rfl, rfl⟩)
  unfold dnF upd
  dsimp only
  rw [cl_nI (by omega), bt_clr _ (by omega)]
  by_cases e : k = s
  · subst e
    right
    rw [if_pos rfl]
    refine ⟨?_, by simp, ?_, hs⟩
    · rcases hy with y1 | ⟨t, ht, y1, p, hp, ep⟩
      · exact Or.inl y1
      · exact Or.inr ⟨t, onC_lt hC ht ep, y1⟩
    · rcases h k with ⟨-, z⟩ | ⟨-, -, z, -⟩
      · rw [← z]; exact hb
      · exact z
  · rw [if_neg e]
    simp only [e, decide_false, Bool.not_false, Bool.and_true]
    exact h k
theorem up_eq {C : Cty} (hC : COk C) (up line slant pace : Int32) : up &&& (faC C up line slant pace ^^^ -1) = (blC C up line slant pace).1.1 := by
  apply b_ext
  intro k hk
  unfold faC
  rw [b_and, bt_not _ hk, b_and, bt_not _ hk]
  rcases blC_inv hC up line slant pace k with ⟨-, e⟩ | ⟨-, e, e2, -⟩
  · rw [e]; cases bt up k <;> rfl
  · rw [e, e2]; rfl
theorem fa_bt {C : Cty} (hC : COk C) (up line slant pace : Int32) {k : Nat} (hk : k < 9) : bt (faC C up line slant pace) k = true ↔ ¬ (blC C up line slant pace).1.2.2.2 k = -2 := by
  unfold faC
  rw [b_and, bt_not _ (by omega)]
  rcases blC_inv hC up line slant pace k with ⟨e0, e⟩ | ⟨e0, e, e2, -⟩
  · rw [e, e0]; cases bt up k <;> simp
  · rw [e, e2]
    constructor
    · intro _ z
      rcases e0 with y | ⟨a, ha, y⟩
      · rw [z] at y; exact absurd y (by decide)
      · have hn := hC.1
        have h0 : ¬ nI a < 0 := nI_pos (by omega)
        rw [← y, z] at h0; exact h0 (by decide)
    · intro _; rfl
theorem of32 (x : Int32) : ∃ n : Nat, n < 2 ^ 32 ∧ x = nI n := ⟨x.toBitVec.toNat, x.toBitVec.isLt, by
  apply Int32.toBitVec_inj.1
  show x.toBitVec = BitVec.ofNat 32 x.toBitVec.toNat
  simp⟩
theorem and_nI (a b : Nat) : nI a &&& nI b = nI (a &&& b) := by
  apply Int32.toBitVec_inj.1
  show BitVec.ofNat 32 a &&& BitVec.ofNat 32 b = BitVec.ofNat 32 (a &&& b)
  apply BitVec.eq_of_getLsbD_eq
  intro i hi
  simp [hi]
theorem and_le (u : Nat) (x : Int32) : ∃ f : Nat, f ≤ u ∧ nI u &&& x = nI f := by
  obtain ⟨m, -, rfl⟩ := of32 x
  exact ⟨u &&& m, Nat.and_le_left, and_nI u m⟩
def mn9 (x : Int32) : Int32 := if x < 9999 then x else 9999
def thC (C : Cty) (line slant pace : Int32) : Cty := (cn C, cf C, fun i k => if i = 5 then mn9 (cd C 5 k + (blC C (cu C) line slant pace).1.2.2.1 k) else if i = 6 then (if bt (faC C (cu C) line slant pace) k then (blC C (cu C) line slant pace).1.2.2.2 k else cd C 6 k) else cd C i k, (blC C (cu C) line slant pace).1.1, ct C + 1, if faC C (cu C) line slant pace = 511 then co C + 1 else co C)
theorem cu_th {C : Cty} {line slant pace : Int32} : cu (thC C line slant pace) = (blC C (cu C) line slant pace).1.1 := by unfold thC; generalize (blC C (cu C) line slant pace) = B; rfl
theorem cd_th {C : Cty} {line slant pace : Int32} {i k : Nat} : cd (thC C line slant pace) i k = if i = 5 then mn9 (cd C 5 k + (blC C (cu C) line slant pace).1.2.2.1 k) else if i = 6 then (if bt (faC C (cu C) line slant pace) k then (blC C (cu C) line slant pace).1.2.2.2 k else cd C 6 k) else cd C i k := by unfold thC; generalize (blC C (cu C) line slant pace) = B; rfl
theorem ct_th {C : Cty} {line slant pace : Int32} : ct (thC C line slant pace) = ct C + 1 := by unfold thC; generalize (blC C (cu C) line slant pace) = B; rfl
theorem co_th {C : Cty} {line slant pace : Int32} : co (thC C line slant pace) = if faC C (cu C) line slant pace = 511 then co C + 1 else co C := by unfold thC; generalize (blC C (cu C) line slant pace) = B; rfl
theorem thC_cc {C : Cty} {line slant pace : Int32} : CC C (thC C line slant pace) := ⟨rfl, rfl, fun _ _ => rfl⟩
theorem thC_ok {C : Cty} (hC : COk C) (line slant pace : Int32) : COk (thC C line slant pace) := by
  have hC0 := hC
  obtain ⟨u, hu, hu2, eu⟩ := hC.up
  obtain ⟨h1, h2, h3, h4, h5⟩ := hC
  refine ⟨h1, fun k hk => ?_, h3, ?_, h5⟩
  · obtain ⟨b1, b2, b3, b4, b5⟩ := h2 k hk
    refine ⟨b1, b2, b3, b4, ?_⟩
    rw [cd_th, if_neg (by decide), if_pos rfl]
    show (if bt (faC C (cu C) line slant pace) k then (blC C (cu C) line slant pace).1.2.2.2 k else cd C 6 k) = -1 ∨ ∃ a : Nat, a < cn C ∧ (if bt (faC C (cu C) line slant pace) k then (blC C (cu C) line slant pace).1.2.2.2 k else cd C 6 k) = nI a
    split
    · rename_i hb
      have hk' : k < cn C := hk
      have := (fa_bt hC0 (cu C) line slant pace (by omega)).mp hb
      rcases blC_inv hC0 (cu C) line slant pace k with ⟨z, -⟩ | ⟨z, -⟩
      · exact absurd z this
      · exact z
    · exact b5
  · obtain ⟨f, hf, e⟩ := and_le u (faC C (cu C) line slant pace ^^^ -1)
    have e1 := up_eq hC0 (cu C) line slant pace
    rw [eu, ← eu] at e1
    have e2 : (blC C (cu C) line slant pace).1.1 = nI f := by rw [← e1]; exact (congrArg (fun z => z &&& (faC C (cu C) line slant pace ^^^ -1)) eu).trans e
    exact ⟨f, Nat.lt_of_le_of_lt hf hu2, cu_th.trans e2⟩
theorem fa_nI {C : Cty} (u : Nat) (line slant pace : Int32) : ∃ f : Nat, f ≤ u ∧ faC C (nI u) line slant pace = nI f := and_le u _
theorem pop9 : ∀ f : Fin 512, popF (nI f.val) = 9 ↔ nI f.val = 511 := by decide +kernel
/-! the class -/
theorem s_fill {σ : St} {q n : Nat} (hn : n < 2 ^ 31) {v : Int32} {P : St → Prop} (h : P (sa σ q (fl n (σ q) v))) : w_J7_fill_53178 q n v σ P := by
  have loop : ∀ m i, i + m = n → w_J7_fill_53178_b5 q n v P (m + 1) (nI i) (nI n) (sa σ q (fl i (σ q) v)) := by
    intro m
    induction m with
    | zero =>
      intro i hi
      have : i = n := by omega
      subst this
      exact ⟨fun _ => h, fun c => absurd (nI_le (Nat.le_refl _) hn) c⟩
    | succ m ih =>
      intro i hi
      unfold w_J7_fill_53178_b5
      rw [cl_nI (by omega), nI_1]
      refine ⟨fun c => absurd c (nI_ge (by omega) hn), fun _ => ⟨vp_in_nI (by omega) hn, ?_⟩⟩
      have e : su (sa σ q (fl i (σ q) v)) q i v = sa σ q (fl (i + 1) (σ q) v) := by
        unfold su
        rw [sa_self, fl_s]
        funext j
        by_cases hj : j = q
        · subst hj; rw [sa_self, sa_self]
        · rw [sa_ne hj, sa_ne hj, sa_ne hj]
      rw [e]
      exact ih (i + 1) (by omega)
  refine ⟨n + 1, ?_⟩
  have h0 := loop n 0 (by omega)
  rw [fl_0] at h0
  have e : sa σ q (σ q) = σ := by
    funext j
    by_cases hj : j = q
    · subst hj; rw [sa_self]
    · rw [sa_ne hj]
  rw [e] at h0
  exact h0
theorem s_suffer {σ : St} {f : Nat} (hf : f < 512) {P : St → Prop}
    (h : ∀ σ', (∀ q, q ≠ 0 → q ≠ 5 → q ≠ 6 → σ' q = σ q) → (∀ k, k ≠ 9 → k ≠ 10 → k ≠ 11 → σ' 0 k = σ 0 k) → σ' 0 9 = σ 0 9 &&& (nI f ^^^ -1) → σ' 0 10 = σ 0 10 + 1 → σ' 0 11 = (if nI f = 511 then σ 0 11 + 1 else σ 0 11) → (∀ k, k < 9 → σ' 5 k = mn9 (σ 5 k + σ 175 k)) → (∀ k, k < 9 → σ' 6 k = if bt (nI f) k then σ 174 k else σ 6 k) → P σ') : w_X3_suffer 0 (nI f) σ P := by
  have loop : ∀ m i τ, i + m = 9 → (∀ q, q ≠ 5 → q ≠ 6 → τ q = σ q) → (∀ k, τ 5 k = if k < i then mn9 (σ 5 k + σ 175 k) else σ 5 k) → (∀ k, τ 6 k = if k < i then (if bt (nI f) k then σ 174 k else σ 6 k) else σ 6 k) → w_X3_suffer_b2 0 (nI f) P (m + 1) (nI i) τ := by
    intro m
    induction m with
    | zero =>
      intro i τ hi a1 a2 a3
      have : i = 9 := by omega
      subst this
      unfold w_X3_suffer_b2
      refine ⟨fun _ => bS ?_, fun c => absurd (by decide) c⟩
      have e10 : su τ 0 9 (τ 0 9 &&& (nI f ^^^ -1)) 0 10 = σ 0 10 := by rw [su_k (by decide), a1 0 (by decide) (by decide)]
      rw [e10, a1 0 (by decide) (by decide)]
      refine s_bitc hf ?_
      have fin : ∀ τ2 : St, (∀ q, q ≠ 0 → τ2 q = τ q) → (∀ k, k ≠ 9 → k ≠ 10 → k ≠ 11 → τ2 0 k = τ 0 k) → τ2 0 9 = σ 0 9 &&& (nI f ^^^ -1) → τ2 0 10 = σ 0 10 + 1 → τ2 0 11 = (if nI f = 511 then σ 0 11 + 1 else σ 0 11) → P τ2 := by
        intro τ2 b1 b2 b3 b4 b5
        refine h τ2 (fun q c1 c2 c3 => by rw [b1 q c1, a1 q c2 c3]) (fun k c1 c2 c3 => by rw [b2 k c1 c2 c3, a1 0 (by decide) (by decide)]) b3 b4 b5 (fun k hk => by rw [b1 5 (by decide), a2 k, if_pos hk]) (fun k hk => by rw [b1 6 (by decide), a3 k, if_pos hk])
      refine ⟨fun c => fin _ (fun q hq => by rw [su_q hq, su_q hq]) (fun k c1 c2 c3 => by rw [su_k c2, su_k c1]) (by rw [su_k (by decide), su_s]) su_s ?_, fun c => fin _ (fun q hq => by rw [su_q hq, su_q hq, su_q hq]) (fun k c1 c2 c3 => by rw [su_k c3, su_k c2, su_k c1]) (by rw [su_k (by decide), su_k (by decide), su_s]) (by rw [su_k (by decide), su_s]) ?_⟩
      · rw [su_k (by decide), su_k (by decide), a1 0 (by decide) (by decide), if_neg (fun z => c ((pop9 ⟨f, hf⟩).mpr z))]
      · rw [su_s, su_k (by decide), su_k (by decide), a1 0 (by decide) (by decide), if_pos ((pop9 ⟨f, hf⟩).mp c)]
    | succ m ih =>
      intro i τ hi a1 a2 a3
      have hv : vp_in (nI i) 9 := in_nI (by omega)
      unfold w_X3_suffer_b2 w_X3_suffer_b54
      rw [cl_nI (by omega), nI_1]
      have e5 : τ (0 + 5) i = σ 5 i := by rw [show (0 + 5) = 5 from rfl, a2 i, if_neg (by omega)]
      rw [e5, a1 175 (by decide) (by decide)]
      refine ⟨fun c => absurd c (nI_ge (a := i) (b := 9) (by omega) (by decide)), fun _ => ⟨hv, hv, hv, bS ⟨fun c => ?_, fun c => ⟨hv, hv, ?_⟩⟩⟩⟩
      · refine ih (i + 1) _ (by omega) (fun q c1 c2 => by rw [su_q c1]; exact a1 q c1 c2) (fun k => ?_) (fun k => ?_)
        · by_cases e : k = i
          · subst e; rw [if_pos (show k < k + 1 by omega)]; exact su_s
          · rw [su_k e, show (0 + 5) = 5 from rfl, a2 k]
            by_cases c3 : k < i
            · rw [if_pos c3, if_pos (show k < i + 1 by omega)]
            · rw [if_neg c3, if_neg (show ¬ k < i + 1 by omega)]
        · rw [su_q (by decide), a3 k]
          by_cases e : k = i
          · subst e
            rw [if_neg (show ¬ k < k by omega), if_pos (show k < k + 1 by omega), if_neg (fun z => c ((has_bt (by omega)).mpr z))]
          · by_cases c3 : k < i
            · rw [if_pos c3, if_pos (show k < i + 1 by omega)]
            · rw [if_neg c3, if_neg (show ¬ k < i + 1 by omega)]
      · refine ih (i + 1) _ (by omega) (fun q c1 c2 => by rw [su_q c2, su_q c1]; exact a1 q c1 c2) (fun k => ?_) (fun k => ?_)
        · rw [su_q (by decide)]
          by_cases e : k = i
          · subst e; rw [if_pos (show k < k + 1 by omega)]; exact su_s
          · rw [su_k e, show (0 + 5) = 5 from rfl, a2 k]
            by_cases c3 : k < i
            · rw [if_pos c3, if_pos (show k < i + 1 by omega)]
            · rw [if_neg c3, if_neg (show ¬ k < i + 1 by omega)]
        · by_cases e : k = i
          · subst e
            rw [if_pos (show k < k + 1 by omega), if_pos ((has_bt (by omega)).mp c)]
            show su _ 6 k _ 6 k = _
            rw [su_s, su_q (by decide), a1 174 (by decide) (by decide)]
          · show su _ 6 i _ 6 k = _
            rw [su_k e, su_q (by decide), a3 k]
            by_cases c3 : k < i
            · rw [if_pos c3, if_pos (show k < i + 1 by omega)]
            · rw [if_neg c3, if_neg (show ¬ k < i + 1 by omega)]
  exact ⟨10, loop 9 0 σ rfl (fun _ _ _ => rfl) (fun k => by rw [if_neg (by omega)]) (fun k => by rw [if_neg (by omega)])⟩
theorem s_throwOne {σ : St} {C : Cty} (hC : COk C) (hG : GX σ 0 C) {line slant pace : Int32} {P : Int32 → St → Prop}
    (h : ∀ σ', (∀ q, 8 ≤ q → (q < 171 ∨ 176 ≤ q) → σ' q = σ q) → GX σ' 0 (thC C line slant pace) → P (faC C (cu C) line slant pace) σ') : w_X7_throwOne line slant pace σ P := by
  obtain ⟨u, hu, hu2, eu⟩ := hC.up
  have hn := hC.1
  unfold w_X7_throwOne
  refine s_prepare ⟨by decide, by decide⟩ hC hG (fun τ1 p1 p2 p3 p4 p5 => ?_)
  unfold w_X5_clearRocked
  refine s_fill (by decide) ?_
  generalize hτ2 : sa τ1 175 (fl 9 (τ1 175) 0) = τ2
  have o2 : ∀ q, q ≠ 175 → τ2 q = τ1 q := fun q b => by rw [← hτ2]; exact sa_ne b
  have k175 : ∀ k, k < 9 → τ2 175 k = 0 := fun k hk => by rw [← hτ2, sa_self]; exact fl_in hk
  have g0 : τ2 0 = σ 0 := by rw [o2 0 (by decide), p1 0 (by decide) (by decide) (by decide)]
  have e9 : τ2 0 9 = cu C := by rw [g0]; exact hG.2.2.1
  refine s_send ?_
  have hEV : EV (τ2 172) (τ2 173) (onC C) (beC C) := by
    rw [o2 172 (by decide), o2 173 (by decide)]
    refine ⟨fun p hp => p4 p hp, fun s hs _ => p5 s hs⟩
  have e4 : τ2 171 4 = cf C / 3 := by rw [o2 171 (by decide)]; exact p2
  rw [e4, e9]
  obtain ⟨-, hBR⟩ := BR_bl hEV (cf C / 3) line slant pace (cu C) (r1 := τ2 175) (r2 := zf) (t1 := τ2 174) (t2 := m2) (fun k hk => k175 k hk)
  generalize (blF (τ2 172) (τ2 173) (cf C / 3) line slant pace (cu C) (τ2 175) (τ2 174)) = B at hBR ⊢
  obtain ⟨B1, B2⟩ := B
  have hBR' : BR (cu C) (τ2 174) m2 B1 (blC C (cu C) line slant pace).1 := hBR
  obtain ⟨q1, q2, q3, q4⟩ := hBR'
  dsimp only
  rw [q1]
  show w_X3_suffer 0 (faC C (cu C) line slant pace) _ _
  obtain ⟨f, hf, ef⟩ := fa_nI (C := C) u line slant pace
  have ef' : faC C (cu C) line slant pace = nI f := by rw [eu]; exact ef
  rw [ef']
  refine s_suffer (by omega) (fun ρ r1 r2 r3 r4 r5 r6 r7 => ?_)
  have hs : ∀ q, q ≠ 171 → q ≠ 174 → q ≠ 175 → pR (su τ2 171 7 B2) B1 q = τ2 q := fun q b1 b2 b3 => by rw [pR_o _ _ b1 b3 b2, su_q b1]
  have hs0 : ∀ q, q < 171 → pR (su τ2 171 7 B2) B1 q = σ q := fun q hq => by rw [hs q (by omega) (by omega) (by omega), o2 q (by omega), p1 q (by omega) (by omega) (by omega)]
  show P (faC C (cu C) line slant pace) ρ
  rw [hs0 0 (by decide)] at r2 r3 r4 r5
  rw [hs0 5 (by decide)] at r6
  rw [hs0 6 (by decide)] at r7
  obtain ⟨g1, g2, g3, g4, g5, g6, g7⟩ := hG
  refine h ρ (fun q b1 b2 => ?_) ⟨?_, ?_, ?_, ?_, ?_, fun i k b1 b2 b3 => ?_, fun p hp => ?_⟩
  · rw [r1 q (by omega) (by omega) (by omega), hs q (by omega) (by omega) (by omega), o2 q (by omega), p1 q (by omega) (by omega) (by omega)]
  · rw [r2 7 (by decide) (by decide) (by decide)]; exact g1
  · rw [r2 8 (by decide) (by decide) (by decide)]; exact g2
  · rw [r3, g3, ← ef', up_eq hC, cu_th]
  · rw [r4, g4, ct_th]
  · rw [r5, g5, ← ef', co_th]
  · have b3' : k < cn C := b3
    have hk9 : k < 9 := by omega
    rw [Nat.zero_add]
    by_cases c5 : i = 5
    · subst c5
      rw [r6 k hk9]
      have e1 : σ 5 k = cd C 5 k := by have := g6 5 k (by decide) (by decide) b3'; rwa [Nat.zero_add] at this
      have e2 : pR (su τ2 171 7 B2) B1 175 k = B1.2.2.1 k := rfl
      rw [e1, e2, q3 k hk9, cd_th, if_pos rfl]
    · by_cases c6 : i = 6
      · subst c6
        rw [r7 k hk9]
        have e1 : σ 6 k = cd C 6 k := by have := g6 6 k (by decide) (by decide) b3'; rwa [Nat.zero_add] at this
        have e2 : pR (su τ2 171 7 B2) B1 174 k = B1.2.2.2 k := rfl
        rw [e1, e2, ← ef']
        rw [cd_th, if_neg (show ¬ (6 = 5) by decide), if_pos (show 6 = 6 from rfl)]
        by_cases hb : bt (faC C (cu C) line slant pace) k = true
        · rw [if_pos hb, if_pos hb]
          rcases q4 k with ⟨-, z, -⟩ | ⟨z, -⟩
          · exact absurd z ((fa_bt hC (cu C) line slant pace hk9).mp hb)
          · exact z
        · rw [if_neg hb, if_neg hb]
      · rw [r1 i (by omega) c5 c6, hs0 i (by omega)]
        have := g6 i k b1 b2 b3'
        rw [Nat.zero_add] at this
        rw [this]
        rw [cd_th, if_neg c5, if_neg c6]
  · rw [Nat.zero_add, r1 7 (by decide) (by decide) (by decide), hs0 7 (by decide)]
    have := g7 p hp
    rw [Nat.zero_add] at this
    exact this
