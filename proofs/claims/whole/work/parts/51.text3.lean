/-! ===== the reference's clauses ===== -/
def MT (τ : St) (lt : Nat → Int32) (m : Nat) : Prop := (∀ k, k < m → τ 186 k = lt k) ∧ τ 185 2 = nI m
/-- what the reference's reading may touch -/
def FD (τ τ' : St) : Prop := (∀ q, q ≠ 185 → τ' q = τ q) ∧ ∀ k, k ≠ 3 → k ≠ 4 → k ≠ 5 → τ' 185 k = τ 185 k
def FM (τ τ' : St) : Prop := (∀ q, q ≠ 185 → q ≠ 187 → τ' q = τ q) ∧ ∀ k, k ≠ 3 → k ≠ 4 → k ≠ 5 → k ≠ 10 → k ≠ 11 → τ' 185 k = τ 185 k
theorem FD.rf (τ : St) : FD τ τ := ⟨fun _ _ => rfl, fun _ _ _ _ => rfl⟩
theorem FD.trans {a b c : St} (h : FD a b) (h2 : FD b c) : FD a c := ⟨fun q hq => by rw [h2.1 q hq, h.1 q hq], fun k b1 b2 b3 => by rw [h2.2 k b1 b2 b3, h.2 k b1 b2 b3]⟩
theorem FD.mt {τ τ' : St} {lt : Nat → Int32} {m : Nat} (h : FD τ τ') (c : MT τ lt m) : MT τ' lt m := ⟨fun k hk => by rw [h.1 186 (by decide)]; exact c.1 k hk, by rw [h.2 2 (by decide) (by decide) (by decide)]; exact c.2⟩
theorem FD.fm {τ τ' : St} (h : FD τ τ') : FM τ τ' := ⟨fun q h1 _ => h.1 q h1, fun k b1 b2 b3 _ _ => h.2 k b1 b2 b3⟩
theorem FM.trans {a b c : St} (h : FM a b) (h2 : FM b c) : FM a c := ⟨fun q h1 h3 => by rw [h2.1 q h1 h3, h.1 q h1 h3], fun k b1 b2 b3 b4 b5 => by rw [h2.2 k b1 b2 b3 b4 b5, h.2 k b1 b2 b3 b4 b5]⟩
theorem FM.mt {τ τ' : St} {lt : Nat → Int32} {m : Nat} (h : FM τ τ') (c : MT τ lt m) : MT τ' lt m := ⟨fun k hk => by rw [h.1 186 (by decide) (by decide)]; exact c.1 k hk, by rw [h.2 2 (by decide) (by decide) (by decide) (by decide) (by decide)]; exact c.2⟩
theorem s_mlet {τ : St} {lt : Nat → Int32} {m j : Nat} (hT : TxT lt m) (hM : MT τ lt m) (hj : j ≤ m + 1) {P : Int32 → St → Prop} (h : P (lt j) τ) : w_X8_letterAt (nI j) τ P := by
  have hm := hT.1
  unfold w_X8_letterAt
  rw [hM.2, cl_nI (by omega)]
  refine ⟨fun z => ?_, fun z => ?_⟩
  · have : m ≤ j := (nI_leI (by omega) (by omega)).mp z
    rw [hT.2.2 j this] at h; exact h
  · have hjm : j < m := Nat.lt_of_not_le (fun y => z (nI_le y (by omega)))
    rw [hM.1 j hjm]
    exact ⟨in_nI (by omega), h⟩
theorem s_mblanks {τ : St} {lt : Nat → Int32} {m j : Nat} (hT : TxT lt m) (hM : MT τ lt m) (hj : j ≤ m + 1) (h3 : τ 185 3 = nI j) {P : St → Prop}
    (h : ∀ τ', FD τ τ' → τ' 185 3 = nI (sk lt m j) → τ' 185 4 = τ 185 4 → τ' 185 5 = τ 185 5 → P τ') : w_X8_blanks τ P := by
  have hm := hT.1
  have loop : ∀ d i θ, m - i = d → i ≤ m + 1 → skp lt d i = sk lt m j → FD τ θ → θ 185 3 = nI i → θ 185 4 = τ 185 4 → θ 185 5 = τ 185 5 → w_X8_blanks_b0 P (d + 1) θ := by
    intro d
    induction d with
    | zero =>
      intro i θ hd hi he hF a1 a2 a3
      have e0 : i = sk lt m j := he
      unfold w_X8_blanks_b0
      rw [a1]
      refine s_mlet hT (hF.mt hM) hi ⟨fun _ => h θ hF (by rw [a1, ← e0]) a2 a3, fun z => ?_⟩
      rw [hT.2.2 i (by omega)] at z
      exact absurd z (by decide)
    | succ d ih =>
      intro i θ hd hi he hF a1 a2 a3
      unfold w_X8_blanks_b0
      rw [a1]
      unfold skp at he
      refine s_mlet hT (hF.mt hM) hi ⟨fun c => ?_, fun c => ?_⟩
      · rw [if_neg c] at he
        exact h θ hF (by rw [a1, he]) a2 a3
      · rw [if_pos c] at he
        rw [a1, nI_1]
        exact ih (i + 1) _ (by omega) (by omega) he ⟨fun q hq => by rw [su_q hq, hF.1 q hq], fun k b1 b2 b3 => by rw [su_k b1, hF.2 k b1 b2 b3]⟩ su_s (by rw [su_k (by decide)]; exact a2) (by rw [su_k (by decide)]; exact a3)
  exact ⟨m - j + 1, loop (m - j) j τ rfl hj rfl (FD.rf τ) h3 rfl rfl⟩
theorem s_mfaulty {τ : St} (h4 : τ 185 4 = 0) {kd pl : Int32} {P : St → Prop} (h : ∀ τ', FD τ τ' → τ' 185 3 = τ 185 3 → τ' 185 4 = kd → τ' 185 5 = pl → P τ') : w_X8_faulty kd pl τ P := by
  unfold w_X8_faulty w_X8_isWell
  refine ⟨fun z => absurd h4 z, fun _ => ⟨fun z => absurd z (by decide), fun _ => ?_⟩⟩
  exact h _ ⟨fun q hq => by rw [su_q hq, su_q hq], fun k b1 b2 b3 => by rw [su_k b3, su_k b2]⟩ (by rw [su_k (by decide), su_k (by decide)]) (by rw [su_k (by decide)]; exact su_s) su_s
/-- a figure more -/
theorem vl_step {w a : Nat} (h1 : 48 ≤ a) : 10 * nI w + nI a - 48 = nI (10 * w + a - 48) := by
  rw [show (10 : Int32) = nI 10 from rfl, pk_mul, nI_add, show (48 : Int32) = nI 48 from rfl, pk_sub (by omega)]
theorem fig_nat {lt : Nat → Int32} {m : Nat} (hT : TxT lt m) {i : Nat} (him : i < m) (c : ¬ lt i < 48 ∧ ¬ 57 < lt i) : ∃ a : Nat, 48 ≤ a ∧ a ≤ 57 ∧ lt i = nI a := by
  obtain ⟨a, ha, e⟩ := hT.2.1 i him
  rw [e] at c
  refine ⟨a, Nat.le_of_not_lt (fun z => c.1 (nI_lt (b := 48) z (by decide))), Nat.le_of_not_lt (fun z => c.2 (nI_lt (a := 57) z (by omega))), e⟩
theorem s_mdue {τ : St} {lt : Nat → Int32} {m j : Nat} (hT : TxT lt m) (hM : MT τ lt m) (hj : j ≤ m) (h3 : τ 185 3 = nI j) (h4 : τ 185 4 = 0) {lo hi : Int32} {P : Int32 → St → Prop}
    (hok : ∀ v j2, nuF lt m lo hi j = .ok (v, j2) → ∀ τ', FD τ τ' → τ' 185 3 = nI j2 → τ' 185 4 = 0 → P v τ')
    (hbad : ∀ kd pl, nuF lt m lo hi j = .error (kd, pl) → ∀ v τ', FD τ τ' → τ' 185 4 = nI kd → τ' 185 5 = nI pl → P v τ') : w_X8_due lo hi τ P := by
  have hm := hT.1
  obtain ⟨a1, a2⟩ := sk_rng lt hj
  obtain ⟨b1, b2⟩ := de_rng lt a2
  unfold w_X8_due
  refine s_mblanks hT hM (by omega) h3 (fun θ f1 f2 f3 f4 => ?_)
  unfold nuF at hok hbad
  rw [f2]
  generalize hp : sk lt m j = p at *
  generalize hq : de lt m p = e at *
  refine ⟨m - p + 1, ?_⟩
  have loop : ∀ d i v φ, m - i = d → p ≤ i → i ≤ m → deN lt d i = e → FD τ φ → φ 185 3 = nI i → φ 185 4 = 0 → (i - p ≤ 3 → v = vlN lt p (i - p) ∧ ∃ w : Nat, w < 10 ^ (i - p) ∧ v = nI w) → w_X8_due_b12 lo hi P (d + 1) (nI p) v φ := by
    have fin : ∀ (K : Int32 → Int32 → St → Prop) i v φ, p ≤ i → i ≤ m → i = e → ¬ (¬ lt i < 48 ∧ ¬ 57 < lt i) → FD τ φ → φ 185 3 = nI i → φ 185 4 = 0 → (i - p ≤ 3 → v = vlN lt p (i - p) ∧ ∃ w : Nat, w < 10 ^ (i - p) ∧ v = nI w) →
        ((¬ (φ 185 3) = nI p → (((3 : Int32) < ((φ 185 3) - nI p) → w_X8_due_b112 lo hi P (nI p) v φ) ∧ (¬ (3 : Int32) < ((φ 185 3) - nI p) → (w_X8_in v lo hi φ (fun r11 σ10 => ((¬ r11 = 0 → P v σ10) ∧ (r11 = 0 → w_X8_due_b112 lo hi P (nI p) v σ10))))))) ∧ ((φ 185 3) = nI p → (w_X8_faulty (1 : Int32) (nI p) φ (fun σ13 => P v σ13)))) := by
      intro K i v φ hpi him hie hno hF g1 g2 hv
      subst hie
      rw [g1, pk_sub hpi]
      refine ⟨fun z => ?_, fun z => ?_⟩
      · have hne : ¬ i = p := fun y => z (by rw [y])
        rw [if_neg hne] at hok hbad
        have bad : (3 < i - p ∨ (v < lo ∨ hi < v) ∧ i - p ≤ 3) → w_X8_due_b112 lo hi P (nI p) v φ := by
          intro hx
          unfold w_X8_due_b112
          have hb : ∀ v τ', FD τ τ' → τ' 185 4 = nI 2 → τ' 185 5 = nI p → P v τ' := by
            rcases hx with q | ⟨q, q2⟩
            · rw [if_pos q] at hbad
              exact hbad 2 p rfl
            · rw [(hv q2).1] at q
              rw [if_neg (by omega), if_pos q] at hbad
              exact hbad 2 p rfl
          exact s_mfaulty g2 (fun τ' y1 y3 y4 y5 => hb v τ' (hF.trans y1) y4 y5)
        refine ⟨fun y => bad (Or.inl ((nI_ltI (a := 3) (by decide) (by omega)).mp y)), fun y => ?_⟩
        have z' : i - p ≤ 3 := Nat.le_of_not_lt (fun x => y (nI_lt (a := 3) x (by omega)))
        refine s_in (fun c1 c2 => ⟨fun _ => ?_, fun x => absurd x (by decide)⟩) (fun c => ⟨fun x => absurd rfl x, fun _ => bad (Or.inr ⟨c, z'⟩)⟩)
        rw [if_neg (by omega), ← (hv z').1, if_neg (fun q => by rcases q with q | q; exact c1 q; exact c2 q)] at hok
        exact hok v i rfl φ hF g1 g2
      · have hie : i = p := nI_inj (by omega) (by omega) z
        rw [if_pos hie] at hbad
        exact s_mfaulty g2 (fun τ' y1 y3 y4 y5 => hbad 1 p rfl v τ' (hF.trans y1) y4 y5)
    intro d
    induction d with
    | zero =>
      intro i v φ hd hpi him he hF g1 g2 hv
      have hie : i = e := he
      have hno : ¬ (¬ lt i < 48 ∧ ¬ 57 < lt i) := fun z => z.1 (by rw [hT.2.2 i (by omega)]; decide)
      have ff := fin (fun _ _ _ => True) i v φ hpi him hie hno hF g1 g2 hv
      unfold w_X8_due_b12
      rw [g1]
      rw [g1] at ff
      refine s_mlet hT (hF.mt hM) (by omega) (s_in (fun c1 c2 => absurd ⟨c1, c2⟩ hno) (fun _ => ⟨fun _ => ?_, fun z => absurd rfl z⟩))
      rw [g1]
      exact ff
    | succ d ih =>
      intro i v φ hd hpi him he hF g1 g2 hv
      have him2 : i < m := by omega
      unfold deN at he
      unfold w_X8_due_b12
      rw [g1]
      refine s_mlet hT (hF.mt hM) (by omega) (s_in (fun c1 c2 => ⟨fun z => absurd z (by decide), fun _ => ?_⟩) (fun c => ⟨fun _ => ?_, fun z => absurd rfl z⟩))
      · rw [if_pos ⟨c1, c2⟩] at he
        rw [g1]
        obtain ⟨a, ha1, ha2, ea⟩ := fig_nat hT him2 ⟨c1, c2⟩
        have nx : ∀ v', (i + 1 - p ≤ 3 → v' = vlN lt p (i + 1 - p) ∧ ∃ w : Nat, w < 10 ^ (i + 1 - p) ∧ v' = nI w) → w_X8_due_b60 lo hi (w_X8_due_b12 lo hi P (d + 1)) P (nI p) v' φ := by
          intro v' hv'
          have o1 : m - (i + 1) = d := by clear hv hv'; omega
          have o2 : p ≤ i + 1 := by clear hv hv'; omega
          have o3 : i + 1 ≤ m := by clear hv hv'; omega
          unfold w_X8_due_b60
          rw [g1, nI_1]
          exact ih (i + 1) v' _ o1 o2 o3 he ⟨fun q hq => by rw [su_q hq, hF.1 q hq], fun k b1 b2 b3 => by rw [su_k b1, hF.2 k b1 b2 b3]⟩ su_s (by rw [su_k (by decide)]; exact g2) hv'
        refine ⟨fun z => s_mlet hT (hF.mt hM) (by omega) (nx _ (fun y => ?_)), fun z => nx _ (fun y => ?_)⟩
        · obtain ⟨q1, w, q2, q3⟩ := hv (by omega)
          rw [show i + 1 - p = (i - p) + 1 by omega]
          refine ⟨?_, 10 * w + a - 48, ?_, ?_⟩
          · rw [q1, vlN, show p + (i - p) = i by omega]
          · rw [Nat.pow_succ]; omega
          · rw [q3, ea, vl_step ha1]
        · exfalso
          obtain ⟨q1, w, q2, q3⟩ := hv (by omega)
          apply z
          have hw : 10 ^ (i - p) ≤ 10 ^ 2 := Nat.pow_le_pow_right (by decide) (by omega)
          rw [q3]
          exact nI_le (b := 9999) (by omega) (by decide)
      · have hno : ¬ (¬ lt i < 48 ∧ ¬ 57 < lt i) := fun z => by rcases c with c | c; exact z.1 c; exact z.2 c
        rw [if_neg hno] at he
        have ff := fin (fun _ _ _ => True) i v φ hpi him he hno hF g1 g2 hv
        rw [g1] at ff ⊢
        exact ff
  exact loop (m - p) p 0 θ rfl (Nat.le_refl _) a2 hq f1 f2 (f3.trans h4) (fun _ => by rw [Nat.sub_self]; exact ⟨rfl, 0, by decide, rfl⟩)
