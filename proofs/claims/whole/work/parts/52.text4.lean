/-! ===== the reference reads a text ===== -/
theorem s_well1 {τ : St} (h4 : τ 185 4 = 0) {P : Int32 → St → Prop} (h : P 1 τ) : w_X8_isWell τ P := ⟨fun z => absurd h4 z, fun _ => h⟩
theorem s_well0 {τ : St} (h4 : ¬ τ 185 4 = 0) {P : Int32 → St → Prop} (h : P 0 τ) : w_X8_isWell τ P := ⟨fun _ => h, fun z => absurd z h4⟩
theorem s_mends {τ : St} {lt : Nat → Int32} {m j : Nat} (hT : TxT lt m) (hM : MT τ lt m) (hj : j ≤ m) (h3 : τ 185 3 = nI j) (h4 : τ 185 4 = 0) {P : St → Prop}
    (hok : ∀ j2, sgF lt m 59 j = .ok j2 → j < j2 → j2 ≤ m → ∀ τ', FD τ τ' → τ' 185 3 = nI j2 → τ' 185 4 = 0 → P τ')
    (hbad : ∀ pl, sgF lt m 59 j = .error (1, pl) → pl ≤ m → ∀ τ', FD τ τ' → τ' 185 3 = nI (pl + 1) → τ' 185 4 = 1 → τ' 185 5 = nI pl → P τ') : w_X8_ends τ P := by
  have hm := hT.1
  obtain ⟨a1, a2⟩ := sk_rng lt hj
  unfold w_X8_ends
  refine s_mblanks hT hM (by omega) h3 (fun θ f1 f2 f3 f4 => ?_)
  rw [f2]
  unfold sgF at hok hbad
  refine s_mlet hT (f1.mt hM) (by omega) ⟨fun c => ?_, fun c => ?_⟩
  · rw [if_pos c] at hok
    have := lt_in hT c (by decide)
    unfold w_X8_ends_b26
    rw [f2, nI_1]
    exact hok _ rfl (by omega) (by omega) _ ⟨fun q hq => by rw [su_q hq, f1.1 q hq], fun k b1 b2 b3 => by rw [su_k b1, f1.2 k b1 b2 b3]⟩ su_s (by rw [su_k (by decide), f3]; exact h4)
  · rw [if_neg c] at hbad
    rw [f2]
    refine s_mfaulty (f3.trans h4) (fun φ y1 y3 y4 y5 => ?_)
    unfold w_X8_ends_b26
    rw [y3, f2, nI_1]
    exact hbad _ rfl a2 _ ⟨fun q hq => by rw [su_q hq, y1.1 q hq, f1.1 q hq], fun k b1 b2 b3 => by rw [su_k b1, y1.2 k b1 b2 b3, f1.2 k b1 b2 b3]⟩ su_s (by rw [su_k (by decide)]; exact y4) (by rw [su_k (by decide)]; exact y5)
theorem s_m144 {τ : St} {lt : Nat → Int32} {m j : Nat} (hT : TxT lt m) (hM : MT τ lt m) (hj : j ≤ m) (h3 : τ 185 3 = nI j) (h4 : τ 185 4 = 0) {K : Int32 → St → Prop} {P : St → Prop} {v1 : Int32}
    (hok : ∀ j2, sgF lt m 59 j = .ok j2 → j < j2 → j2 ≤ m → ∀ τ', FD τ τ' → τ' 185 3 = nI (sk lt m j2) → τ' 185 4 = 0 → K v1 τ')
    (hbad : ∀ pl, sgF lt m 59 j = .error (1, pl) → ∀ τ', FD τ τ' → τ' 185 4 = 1 → τ' 185 5 = nI pl → K v1 τ') : w_X8_reads_b144 K P v1 τ := by
  unfold w_X8_reads_b144 w_X8_reads_b159
  refine s_well1 h4 ⟨fun z => absurd z (by decide), fun _ => s_mends hT hM hj h3 h4 (fun j2 e l1 l2 τ1 f1 f3 f4 => ?_) (fun pl e l1 τ1 f1 f3 f4 f5 => ?_)⟩
  · exact s_mblanks hT (f1.mt hM) (by omega) f3 (fun τ2 g1 g3 g4 g5 => hok j2 e l1 l2 τ2 (f1.trans g1) g3 (g4.trans f4))
  · exact s_mblanks hT (f1.mt hM) (by omega) f3 (fun τ2 g1 g3 g4 g5 => hbad pl e τ2 (f1.trans g1) (g4.trans f4) (g5.trans f5))
theorem s_m144x {τ : St} (h4 : ¬ τ 185 4 = 0) {K : Int32 → St → Prop} {P : St → Prop} {v1 : Int32} (h : K v1 τ) : w_X8_reads_b144 K P v1 τ := s_well0 h4 ⟨fun _ => h, fun z => absurd rfl z⟩
def AM (τ : St) (n : Nat) (D : Nat → Nat → Int32) : Prop := ∀ k, k < n → τ 187 k = D 1 k ∧ τ 187 (9 + k) = D 2 k ∧ τ 187 (18 + k) = D 3 k
theorem AM.of {τ τ' : St} {n : Nat} {D : Nat → Nat → Int32} (h : AM τ n D) (e : τ' 187 = τ 187) : AM τ' n D := fun k hk => by rw [e]; exact h k hk
theorem s_mclause {τ : St} {lt : Nat → Int32} {m j n : Nat} {D : Nat → Nat → Int32} (hT : TxT lt m) (hM : MT τ lt m) (hj : j ≤ m) (h3 : τ 185 3 = nI j) (h4 : τ 185 4 = 0) (hn : n < 9) (h11 : τ 185 11 = nI n) (hA : AM τ n D) {K : Int32 → St → Prop} {P : St → Prop} {v1 : Int32}
    (hok : ∀ a b c j4, skF lt m j = .ok (a, b, c, j4) → j < j4 → j4 ≤ m → ∀ τ', FM τ τ' → τ' 185 3 = nI (sk lt m j4) → τ' 185 4 = 0 → τ' 185 10 = τ 185 10 → τ' 185 11 = nI (n + 1) → AM τ' (n + 1) (stD D n a b c) → K v1 τ')
    (hbad : ∀ kd pl, skF lt m j = .error (kd, pl) → (kd = 1 ∨ kd = 2) → ∀ τ', FM τ τ' → τ' 185 4 = nI kd → τ' 185 5 = nI pl → K v1 τ') : w_X8_tells τ (fun σ20 => w_X8_reads_b144 K P v1 σ20) := by
  have e9 : (9 : Int32) + nI n = nI (9 + n) := nI_add 9 n
  have e18 : (18 : Int32) + nI n = nI (18 + n) := nI_add 18 n
  have d3 : ∀ k : Nat, k = 185 → k ≠ 187 := fun k h => by omega
  -- the end of a clause with a fault
  have bad40 : ∀ kd pl φ, skF lt m j = .error (kd, pl) → (kd = 1 ∨ kd = 2) → FM τ φ → φ 185 4 = nI kd → φ 185 5 = nI pl → w_X8_tells_b63 (fun σ20 => w_X8_reads_b144 K P v1 σ20) φ := by
    intro kd pl φ e hk f1 f4 f5
    unfold w_X8_tells_b63
    refine s_m144x (by rw [su_k (by decide), f4]; exact nI_kd hk) ?_
    exact hbad kd pl e hk _ ⟨fun q b1 b2 => by rw [su_q b1, f1.1 q b1 b2], fun k b1 b2 b3 b4 b5 => by rw [su_k b5, f1.2 k b1 b2 b3 b4 b5]⟩ (by rw [su_k (by decide)]; exact f4) (by rw [su_k (by decide)]; exact f5)
  unfold w_X8_tells
  rw [h11, cl_nI (by omega)]
  refine s_mdue hT hM hj h3 h4 (fun a j1 e1 τ1 f1 a3 a4 => ⟨in_nI (by omega), ?_⟩) (fun kd pl e1 v τ1 f1 a4 a5 => ⟨in_nI (by omega), ?_⟩)
  · obtain ⟨-, -, n3, n4⟩ := nu_ok e1 hj
    have hM1 : MT (su τ1 187 n a) lt m := ⟨fun k hk => by rw [su_q (by decide)]; exact (f1.mt hM).1 k hk, by rw [su_q (by decide)]; exact (f1.mt hM).2⟩
    refine s_well1 (by rw [su_q (by decide)]; exact a4) ⟨fun z => absurd z (by decide), fun _ => ?_⟩
    rw [e9, cl_nI (by omega)]
    refine s_mdue hT hM1 n4 (by rw [su_q (by decide)]; exact a3) (by rw [su_q (by decide)]; exact a4) (fun b j2 e2 τ2 f2 b3 b4 => ⟨in_nI (by omega), ?_⟩) (fun kd pl e2 v τ2 f2 b4 b5 => ⟨in_nI (by omega), ?_⟩)
    · obtain ⟨-, -, o3, o4⟩ := nu_ok e2 n4
      have hM2 : MT (su τ2 187 (9 + n) b) lt m := ⟨fun k hk => by rw [su_q (by decide)]; exact (f2.mt hM1).1 k hk, by rw [su_q (by decide)]; exact (f2.mt hM1).2⟩
      unfold w_X8_tells_b40
      refine s_well1 (by rw [su_q (by decide)]; exact b4) ⟨fun z => absurd z (by decide), fun _ => ?_⟩
      rw [e18, cl_nI (by omega)]
      refine s_mdue hT hM2 o4 (by rw [su_q (by decide)]; exact b3) (by rw [su_q (by decide)]; exact b4) (fun c j3 e3 τ3 f3 c3 c4 => ⟨in_nI (by omega), ?_⟩) (fun kd pl e3 v τ3 f3 c4 c5 => ⟨in_nI (by omega), ?_⟩)
      · obtain ⟨-, -, q3, q4⟩ := nu_ok e3 o4
        unfold w_X8_tells_b63
        have k11 : su τ3 187 (18 + n) c 185 11 = nI n := by
          rw [su_q (by decide), f3.2 11 (by decide) (by decide) (by decide), su_q (by decide), f2.2 11 (by decide) (by decide) (by decide), su_q (by decide), f1.2 11 (by decide) (by decide) (by decide)]; exact h11
        rw [k11, nI_1]
        generalize hφ : su (su τ3 187 (18 + n) c) 185 11 (nI (n + 1)) = φ
        have p187 : ∀ i, φ 187 i = if i = 18 + n then c else if i = 9 + n then b else if i = n then a else τ 187 i := fun i => by
          rw [← hφ, su_q (by decide), su_ap, if_pos rfl, f3.1 187 (by decide), su_ap, if_pos rfl, f2.1 187 (by decide), su_ap, if_pos rfl, f1.1 187 (by decide)]
        have o : ∀ q, q ≠ 185 → q ≠ 187 → φ q = τ q := fun q b1 b2 => by rw [← hφ, su_q b1, su_q b2, f3.1 q b1, su_q b2, f2.1 q b1, su_q b2, f1.1 q b1]
        have k : ∀ i, i ≠ 3 → i ≠ 4 → i ≠ 5 → i ≠ 11 → φ 185 i = τ 185 i := fun i b1 b2 b3 b4 => by rw [← hφ, su_k b4, su_q (by decide), f3.2 i b1 b2 b3, su_q (by decide), f2.2 i b1 b2 b3, su_q (by decide), f1.2 i b1 b2 b3]
        have k3 : φ 185 3 = nI j3 := by rw [← hφ, su_k (by decide), su_q (by decide)]; exact c3
        have k4 : φ 185 4 = 0 := by rw [← hφ, su_k (by decide), su_q (by decide)]; exact c4
        have k11' : φ 185 11 = nI (n + 1) := by rw [← hφ]; exact su_s
        have hFφ : FM τ φ := ⟨o, fun i b1 b2 b3 _ b5 => k i b1 b2 b3 b5⟩
        refine s_m144 hT (hFφ.mt hM) q4 k3 k4 (fun j4 e4 l1 l2 ψ g1 g3 g4 => ?_) (fun pl e4 ψ g1 g4 g5 => ?_)
        · refine hok a b c j4 (by unfold skF; rw [e1]; dsimp only; rw [e2]; dsimp only; rw [e3]; dsimp only; rw [e4]) (by omega) l2 ψ (hFφ.trans g1.fm) g3 g4 ?_ ?_ (fun i hi => ?_)
          · rw [g1.2 10 (by decide) (by decide) (by decide), k 10 (by decide) (by decide) (by decide) (by decide)]
          · rw [g1.2 11 (by decide) (by decide) (by decide)]; exact k11'
          · rw [g1.1 187 (by decide)]
            unfold stD
            by_cases ei : i = n
            · rw [if_pos ei, if_pos ei, if_pos ei, ei]
              refine ⟨?_, ?_, ?_⟩
              · rw [p187, if_neg (by omega), if_neg (by omega), if_pos rfl]; rfl
              · rw [p187, if_neg (by omega), if_pos rfl]; rfl
              · rw [p187, if_pos rfl]; rfl
            · rw [if_neg ei, if_neg ei, if_neg ei]
              obtain ⟨r1, r2, r3⟩ := hA i (by omega)
              refine ⟨?_, ?_, ?_⟩
              · rw [p187, if_neg (by omega), if_neg (by omega), if_neg ei]; exact r1
              · rw [p187, if_neg (by omega), if_neg (by omega), if_neg (by omega)]; exact r2
              · rw [p187, if_neg (by omega), if_neg (by omega), if_neg (by omega)]; exact r3
        · exact hbad 1 pl (by unfold skF; rw [e1]; dsimp only; rw [e2]; dsimp only; rw [e3]; dsimp only; rw [e4]) (Or.inl rfl) ψ (hFφ.trans g1.fm) g4 g5
      · obtain ⟨k1, k2⟩ := nu_bad e3 o4
        refine bad40 kd pl _ (by unfold skF; rw [e1]; dsimp only; rw [e2]; dsimp only; rw [e3]) k1 ⟨fun q b1 b2 => by rw [su_q b2, f3.1 q b1, su_q b2, f2.1 q b1, su_q b2, f1.1 q b1], fun i b1 b2 b3 b4 b5 => by rw [su_q (by decide), f3.2 i b1 b2 b3, su_q (by decide), f2.2 i b1 b2 b3, su_q (by decide), f1.2 i b1 b2 b3]⟩ (by rw [su_q (by decide)]; exact c4) (by rw [su_q (by decide)]; exact c5)
    · obtain ⟨k1, k2⟩ := nu_bad e2 n4
      unfold w_X8_tells_b40
      refine s_well0 (by rw [su_q (by decide), b4]; exact nI_kd k1) ⟨fun _ => ?_, fun z => absurd rfl z⟩
      refine bad40 kd pl _ (by unfold skF; rw [e1]; dsimp only; rw [e2]) k1 ⟨fun q b1 b2 => by rw [su_q b2, f2.1 q b1, su_q b2, f1.1 q b1], fun i b1 b2 b3 b4 b5 => by rw [su_q (by decide), f2.2 i b1 b2 b3, su_q (by decide), f1.2 i b1 b2 b3]⟩ (by rw [su_q (by decide)]; exact b4) (by rw [su_q (by decide)]; exact b5)
  · obtain ⟨k1, k2⟩ := nu_bad e1 hj
    have n8 : ¬ su τ1 187 n v 185 4 = 0 := by rw [su_q (by decide), a4]; exact nI_kd k1
    refine s_well0 n8 ⟨fun _ => ?_, fun z => absurd rfl z⟩
    unfold w_X8_tells_b40
    refine s_well0 n8 ⟨fun _ => ?_, fun z => absurd rfl z⟩
    refine bad40 kd pl _ (by unfold skF; rw [e1]) k1 ⟨fun q b1 b2 => by rw [su_q b2, f1.1 q b1], fun i b1 b2 b3 b4 b5 => by rw [su_q (by decide), f1.2 i b1 b2 b3]⟩ (by rw [su_q (by decide)]; exact a4) (by rw [su_q (by decide)]; exact a5)
/-- the reference has read a text: a fault, or a county -/
theorem s_mreads {σ : St} {lt : Nat → Int32} {m : Nat} (hT : TxT lt m) (hM : MT σ lt m) (h3 : σ 185 3 = 0) (h4 : σ 185 4 = 0) (h10 : σ 185 10 = -1) (h11 : σ 185 11 = 0) {P : St → Prop}
    (h : ∀ τ, FM σ τ → τ 185 4 = nI (rdA lt m).2.1 → (¬ (rdA lt m).2.1 = 0 → τ 185 5 = nI (rdA lt m).2.2.1) → ((rdA lt m).2.1 = 0 → τ 185 10 = (rdA lt m).1 ∧ τ 185 11 = nI (rdA lt m).2.2.2.1 ∧ AM τ (rdA lt m).2.2.2.1 (rdA lt m).2.2.2.2) → P τ) : w_X8_reads σ P := by
  have hm := hT.1
  have stop : ∀ (R : Int32 × Outc) f v1 τ, rdA lt m = R → ¬ R.2.1 = 0 → R.2.1 < 4 → FM σ τ → τ 185 4 = nI R.2.1 → τ 185 5 = nI R.2.2.1 → w_X8_reads_b6 P (f + 1) v1 τ := by
    intro R f v1 τ hR hk hk4 f1 f4 f5
    subst hR
    unfold w_X8_reads_b6
    exact s_well0 (by rw [f4]; exact nI_ne0 (by omega) (by omega)) ⟨fun _ => h τ f1 f4 (fun _ => f5) (fun z => absurd z hk), fun z => absurd rfl z⟩
  have goal : ∀ (R : Int32 × Outc) f v1 τ j, rdA lt m = R → R.2.1 = 0 → FM σ τ → τ 185 3 = nI j → m ≤ j → j ≤ m → τ 185 4 = 0 → τ 185 10 = R.1 → τ 185 11 = nI R.2.2.2.1 → AM τ R.2.2.2.1 R.2.2.2.2 → w_X8_reads_b6 P (f + 1) v1 τ := by
    intro R f v1 τ j hR hk f1 f3 hj1 hj2 f4 f10 f11 fA
    subst hR
    unfold w_X8_reads_b6
    refine s_well1 f4 ⟨fun z => absurd z (by decide), fun _ => ?_⟩
    rw [f3, (f1.mt hM).2]
    exact ⟨fun _ => h τ f1 (by rw [f4, hk]; rfl) (fun z => absurd hk z) (fun _ => ⟨f10, f11, fA⟩), fun z => absurd (nI_le hj1 (by omega)) z⟩
  have loop : ∀ f i j n D v τ, i + f = 240 → i ≤ j → j ≤ m → n ≤ 9 → rdA lt m = (v, rdS lt m f j n D) → FM σ τ → τ 185 3 = nI (sk lt m j) → τ 185 4 = 0 → τ 185 10 = v → τ 185 11 = nI n → AM τ n D → w_X8_reads_b6 P (f + 1) 1 τ := by
    intro f
    induction f with
    | zero =>
      intro i j n D v τ hi hij hjm hn hR f1 f3 f4 f10 f11 fA
      obtain ⟨a1, a2⟩ := sk_rng lt hjm
      exact goal _ 0 1 τ (sk lt m j) hR rfl f1 f3 (by omega) a2 f4 f10 f11 fA
    | succ f ih =>
      intro i j n D v τ hi hij hjm hn hR f1 f3 f4 f10 f11 fA
      obtain ⟨a1, a2⟩ := sk_rng lt hjm
      have f2 := f1.mt hM
      unfold rdS at hR
      by_cases cm : sk lt m j < m
      · rw [if_neg (show ¬ m ≤ sk lt m j by omega)] at hR
        unfold w_X8_reads_b6
        refine s_well1 f4 ⟨fun z => absurd z (by decide), fun _ => ?_⟩
        rw [f3, f2.2]
        refine ⟨fun z => absurd z (nI_ge cm (by omega)), fun _ => s_mlet hT f2 (by omega) ?_⟩
        generalize hc : lt (sk lt m j) = c at hR ⊢
        -- a fault that the letter itself is
        have flt : ∀ kd, rdA lt m = (v, kd, sk lt m j, n, D) → ¬ kd = 0 → kd < 4 → w_X8_faulty (nI kd) (τ 185 3) τ (fun σ18 => w_X8_reads_b159 (w_X8_reads_b6 P (f + 1)) P 1 σ18) := by
          intro kd hR hk hk4
          refine s_mfaulty f4 (fun ψ y1 y3 y4 y5 => ?_)
          exact stop (v, kd, sk lt m j, n, D) f 1 ψ hR hk hk4 (f1.trans y1.fm) y4 (y5.trans f3)
        refine ⟨fun c1 => ?_, fun c1 => ⟨fun c2 => ?_, fun c2 => ⟨fun z => absurd z (by decide), fun _ => ?_⟩⟩⟩
        · rw [if_pos c1] at hR
          unfold w_X8_reads_b49 w_X8_reads_b54 w_X8_reads_b96
          exact ⟨fun _ => ⟨fun z => absurd c1 z, fun _ => ⟨fun _ => flt 3 hR (by decide) (by decide), fun z => absurd z (by decide)⟩⟩, fun z => absurd z (by decide)⟩
        · rw [if_neg c1, if_neg c2] at hR
          unfold w_X8_reads_b53 w_X8_reads_b54
          exact ⟨fun z => absurd rfl z, fun _ => flt 1 hR (by decide) (by decide)⟩
        · rw [if_neg c1, if_pos c2] at hR
          unfold w_X8_reads_b49 w_X8_reads_b54
          refine ⟨fun _ => ⟨fun _ => ?_, fun z => absurd z c1⟩, fun z => absurd z (by decide)⟩
          unfold w_X8_reads_b81 w_X8_reads_b96
          rw [f11]
          refine ⟨fun z => absurd c2 z, fun _ => ⟨fun z => ?_, fun z => ?_⟩⟩
          · have hn9 : ¬ n = 9 := fun y => z (by rw [y]; rfl)
            rw [if_neg hn9] at hR
            unfold w_X8_reads_b108
            refine ⟨fun _ => ?_, fun z => absurd z c1⟩
            rw [f3, nI_1]
            generalize hφ : su τ 185 3 (nI (sk lt m j + 1)) = φ
            have o : FM τ φ := ⟨fun q b1 _ => by rw [← hφ, su_q b1], fun k b1 _ _ _ _ => by rw [← hφ, su_k b1]⟩
            have k : ∀ i, i ≠ 3 → φ 185 i = τ 185 i := fun i b => by rw [← hφ, su_k b]
            refine s_mclause (j := sk lt m j + 1) hT (o.mt f2) (by omega) (by rw [← hφ]; exact su_s) (by rw [k 4 (by decide)]; exact f4) (by omega) (by rw [k 11 (by decide)]; exact f11) (fA.of (by rw [← hφ, su_q (by decide)])) (fun a b c' j4 e l1 l2 ψ y1 y3 y4 y10 y11 yA => ?_) (fun kd pl e hk ψ y1 y4 y5 => ?_)
            · rw [e] at hR
              exact ih (i + 1) j4 (n + 1) _ v ψ (by omega) (by omega) l2 (by omega) hR (f1.trans (o.trans y1)) y3 y4 (by rw [y10, k 10 (by decide)]; exact f10) y11 yA
            · rw [e] at hR
              exact stop (v, kd, pl, n, D) f 1 ψ hR (show ¬ kd = 0 by omega) (show kd < 4 by omega) (f1.trans (o.trans y1)) y4 y5
          · have hn9 : n = 9 := nI_inj (b := 9) (by omega) (by decide) z
            rw [if_pos hn9] at hR
            exact flt 3 hR (by decide) (by decide)
      · rw [if_pos (show m ≤ sk lt m j by omega)] at hR
        exact goal _ (f + 1) 1 τ (sk lt m j) hR rfl f1 f3 (by omega) a2 f4 f10 f11 fA
  unfold w_X8_reads
  refine s_mblanks hT hM (Nat.zero_le _) h3 (fun τ g1 g3 g4 g5 => ⟨242, ?_⟩)
  obtain ⟨a1, a2⟩ := sk_rng lt (Nat.zero_le m)
  have f1 : FM σ τ := g1.fm
  have f2 := g1.mt hM
  have f4 : τ 185 4 = 0 := g4.trans h4
  have f10 : τ 185 10 = -1 := by rw [g1.2 10 (by decide) (by decide) (by decide)]; exact h10
  have f11 : τ 185 11 = nI 0 := by rw [g1.2 11 (by decide) (by decide) (by decide)]; exact h11
  have rA : ∀ (ψ : St) D, AM ψ 0 D := fun ψ D k hk => absurd hk (Nat.not_lt_zero k)
  have hRA : rdA lt m = rdA lt m := rfl
  conv at hRA => rhs; unfold rdA
  by_cases cm : sk lt m 0 < m
  · rw [if_neg (show ¬ m ≤ sk lt m 0 by omega)] at hRA
    unfold w_X8_reads_b6
    refine s_well1 f4 ⟨fun z => absurd z (by decide), fun _ => ?_⟩
    rw [g3, f2.2]
    refine ⟨fun z => absurd z (nI_ge cm (by omega)), fun _ => s_mlet hT f2 (by omega) ?_⟩
    generalize hc : lt (sk lt m 0) = c at hRA ⊢
    have b53 : ¬ c = 103 → w_X8_reads_b53 (w_X8_reads_b6 P 241) P 0 c τ := by
      intro c1
      rw [if_neg c1] at hRA
      unfold w_X8_reads_b53 w_X8_reads_b54
      refine ⟨fun z => absurd rfl z, fun _ => s_mfaulty f4 (fun ψ y1 y3 y4 y5 => ?_)⟩
      exact stop (0, 1, sk lt m 0, 0, fun _ _ => 0) 240 0 ψ hRA (show ¬ (1 : Nat) = 0 by decide) (show (1 : Nat) < 4 by decide) (f1.trans y1.fm) y4 (y5.trans g3)
    refine ⟨fun c1 => ?_, fun c1 => ⟨fun c2 => b53 c1, fun c2 => ⟨fun _ => b53 c1, fun z => absurd rfl z⟩⟩⟩
    rw [if_pos c1] at hRA
    have c2 : ¬ c = 115 := by rw [c1]; decide
    unfold w_X8_reads_b49 w_X8_reads_b54 w_X8_reads_b81 w_X8_reads_b108
    refine ⟨fun _ => ⟨fun z => absurd c1 z, fun _ => ⟨fun z => absurd rfl z, fun _ => ⟨fun _ => ⟨fun z => absurd c1 z, fun _ => ?_⟩, fun z => absurd z c2⟩⟩⟩, fun z => absurd z (by decide)⟩
    rw [g3, nI_1]
    generalize hφ : su τ 185 3 (nI (sk lt m 0 + 1)) = φ
    have o : FD τ φ := ⟨fun q b1 => by rw [← hφ, su_q b1], fun k b1 _ _ => by rw [← hφ, su_k b1]⟩
    have k4 : φ 185 4 = 0 := by rw [← hφ, su_k (by decide)]; exact f4
    refine s_mdue hT (o.mt f2) (show sk lt m 0 + 1 ≤ m by omega) (by rw [← hφ]; exact su_s) k4 (fun v j1 e1 τ1 y1 y3 y4 => ?_) (fun kd pl e1 v τ1 y1 y4 y5 => ?_)
    · obtain ⟨-, -, n3, n4⟩ := nu_ok e1 (show sk lt m 0 + 1 ≤ m by omega)
      generalize hψ : su τ1 185 10 v = ψ
      have o2 : FM φ ψ := ⟨fun q b1 b2 => by rw [← hψ, su_q b1, y1.1 q b1], fun k b1 b2 b3 b4 _ => by rw [← hψ, su_k b4, y1.2 k b1 b2 b3]⟩
      have F2 : FM σ ψ := f1.trans (o.fm.trans o2)
      have k11 : ψ 185 11 = nI 0 := by rw [← hψ, su_k (by decide), y1.2 11 (by decide) (by decide) (by decide), o.2 11 (by decide) (by decide) (by decide)]; exact f11
      refine s_m144 hT (F2.mt hM) n4 (by rw [← hψ, su_k (by decide)]; exact y3) (by rw [← hψ, su_k (by decide)]; exact y4) (fun j2 e2 l1 l2 χ z1 z3 z4 => ?_) (fun pl e2 χ z1 z4 z5 => ?_)
      · have ef : flF lt m (sk lt m 0 + 1) = .ok (v, j2) := by unfold flF; rw [e1]; dsimp only; rw [e2]
        rw [ef] at hRA
        exact loop 240 0 j2 0 _ v χ rfl (by omega) l2 (by decide) hRA (F2.trans z1.fm) z3 z4 (by rw [z1.2 10 (by decide) (by decide) (by decide), ← hψ]; exact su_s) (by rw [z1.2 11 (by decide) (by decide) (by decide)]; exact k11) (rA χ _)
      · have ef : flF lt m (sk lt m 0 + 1) = .error (1, pl) := by unfold flF; rw [e1]; dsimp only; rw [e2]
        rw [ef] at hRA
        exact stop (0, 1, pl, 0, fun _ _ => 0) 240 1 χ hRA (show ¬ (1 : Nat) = 0 by decide) (show (1 : Nat) < 4 by decide) (F2.trans z1.fm) z4 z5
    · obtain ⟨k1, k2⟩ := nu_bad e1 (show sk lt m 0 + 1 ≤ m by omega)
      have ef : flF lt m (sk lt m 0 + 1) = .error (kd, pl) := by unfold flF; rw [e1]
      rw [ef] at hRA
      refine s_m144x (by rw [su_k (by decide), y4]; exact nI_kd k1) ?_
      exact stop (0, kd, pl, 0, fun _ _ => 0) 240 1 _ hRA (show ¬ kd = 0 by omega) (show kd < 4 by omega) (f1.trans (o.fm.trans ⟨fun q b1 b2 => by rw [su_q b1, y1.1 q b1], fun k b1 b2 b3 b4 _ => by rw [su_k b4, y1.2 k b1 b2 b3]⟩)) (by rw [su_k (by decide)]; exact y4) (by rw [su_k (by decide)]; exact y5)
  · rw [if_pos (show m ≤ sk lt m 0 by omega)] at hRA
    exact goal _ 241 0 τ (sk lt m 0) hRA rfl f1 g3 (by omega) a2 f4 f10 f11 (rA τ _)
