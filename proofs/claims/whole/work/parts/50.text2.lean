/-! ===== the program's clauses ===== -/
theorem sg_bad {lt : Nat → Int32} {m : Nat} {c : Int32} {j kd pl : Nat} (h : sgF lt m c j = .error (kd, pl)) : kd = 1 := by
  unfold sgF at h
  split at h
  · simp at h
  · simp only [Except.error.injEq, Prod.mk.injEq] at h; omega
theorem nI_kd {kd : Nat} (h : kd = 1 ∨ kd = 2) : ¬ nI kd = 0 := by
  rcases h with h | h
  · rw [h]; decide
  · rw [h]; decide
/-- the program's scratch, in which a county is told -/
def FA (τ τ' : St) : Prop := ∀ q, q ≠ 161 → q ≠ 163 → q ≠ 164 → q ≠ 165 → τ' q = τ q
theorem FR.fa {τ τ' : St} (h : FR τ τ') : FA τ τ' := fun q h1 _ _ _ => h.1 q h1
theorem FA.trans {a b c : St} (h : FA a b) (h2 : FA b c) : FA a c := fun q h1 h3 h4 h5 => by rw [h2 q h1 h3 h4 h5, h q h1 h3 h4 h5]
theorem s_readFloor {τ : St} {lt : Nat → Int32} {m j : Nat} (hT : TxT lt m) (hC : CT τ lt m) (hj : j < m) (h5 : τ 161 5 = nI j) (h8 : τ 161 8 = 0) (h32 : ¬ lt j = 32) {P : St → Prop}
    (hg : ¬ lt j = 103 → ∀ τ', FA τ τ' → τ' 161 8 = 1 → τ' 161 9 = nI j → P τ')
    (hok : ∀ v j2, lt j = 103 → flF lt m (j + 1) = .ok (v, j2) → j < j2 → j2 ≤ m → ∀ τ', FA τ τ' → CT τ' lt m → τ' 161 5 = nI j2 → τ' 161 8 = 0 → τ' 161 9 = τ 161 9 → τ' 161 6 = v → τ' 161 7 = τ 161 7 → P τ')
    (hbad : ∀ kd pl, lt j = 103 → flF lt m (j + 1) = .error (kd, pl) → (kd = 1 ∨ kd = 2) → ∀ τ', FA τ τ' → τ' 161 8 = nI kd → τ' 161 9 = nI pl → P τ') : w_X2_readFloor τ P := by
  have es : sk lt m j = j := sk_id h32
  unfold w_X2_readFloor
  refine s_takeSign hT hC (by omega) h5 h8 (by decide) (fun j1 e1 l1 l2 τ1 f1 a5 a8 a9 => ?_) (fun pl e1 l1 τ1 f1 a8 a9 => ?_)
  · have e1' := e1
    unfold sgF at e1'
    rw [es] at e1'
    by_cases c : lt j = 103
    · rw [if_pos c] at e1'
      have : j + 1 = j1 := by simpa using e1'
      subst this
      refine s_takeNumber hT (f1.ct hC) l2 a5 a8 (fun v j2 e2 τ2 f2 b5 b8 b9 => ?_) (fun kd pl e2 v τ2 f2 b8 b9 => ?_)
      · obtain ⟨n1, n2, n3, n4⟩ := nu_ok e2 l2
        have hC2 : CT (su τ2 161 6 v) lt m := ⟨fun k hk => by rw [su_q (by decide)]; exact ((f1.trans f2).ct hC).1 k hk, by rw [su_k (by decide)]; exact ((f1.trans f2).ct hC).2⟩
        refine s_takeSign hT hC2 n4 (by rw [su_k (by decide)]; exact b5) (by rw [su_k (by decide)]; exact b8) (by decide) (fun j3 e3 l3 l4 τ3 f3 c5 c8 c9 => ?_) (fun pl e3 l3 τ3 f3 c8 c9 => ?_)
        · refine hok v j3 c (by unfold flF; rw [e2]; dsimp only; rw [e3]) (by omega) l4 τ3 (fun q h1 h2 h3 h4 => ?_) (f3.ct hC2) c5 c8 ?_ ?_ ?_
          · rw [f3.1 q h1, su_q h1, f2.1 q h1, f1.1 q h1]
          · rw [c9, su_k (by decide), b9, a9]
          · rw [f3.2 6 (by decide) (by decide) (by decide), su_s]
          · rw [f3.2 7 (by decide) (by decide) (by decide), su_k (by decide), f2.2 7 (by decide) (by decide) (by decide), f1.2 7 (by decide) (by decide) (by decide)]
        · exact hbad 1 pl c (by unfold flF; rw [e2]; dsimp only; rw [e3]) (Or.inl rfl) τ3 (fun q h1 h2 h3 h4 => by rw [f3.1 q h1, su_q h1, f2.1 q h1, f1.1 q h1]) c8 c9
      · obtain ⟨k1, k2⟩ := nu_bad e2 l2
        refine s_noSign (by rw [su_k (by decide), b8]; exact nI_kd k1) ?_
        exact hbad kd pl c (by unfold flF; rw [e2]) k1 _ (fun q h1 h2 h3 h4 => by rw [su_q h1, f2.1 q h1, f1.1 q h1]) (by rw [su_k (by decide)]; exact b8) (by rw [su_k (by decide)]; exact b9)
    · rw [if_neg c] at e1'; simp at e1'
  · have e1' := e1
    unfold sgF at e1'
    rw [es] at e1'
    by_cases c : lt j = 103
    · rw [if_pos c] at e1'; simp at e1'
    · rw [if_neg c] at e1'
      have : j = pl := by simpa using e1'
      subst this
      have n8 : ¬ τ1 161 8 = 0 := by rw [a8]; decide
      refine s_noNum n8 (s_noSign (by rw [su_k (by decide)]; exact n8) ?_)
      exact hg c _ (fun q h1 h2 h3 h4 => by rw [su_q h1, f1.1 q h1]) (by rw [su_k (by decide)]; exact a8) (by rw [su_k (by decide)]; exact a9)
def AR (τ : St) (n : Nat) (D : Nat → Nat → Int32) : Prop := ∀ k, k < n → τ 163 k = D 1 k ∧ τ 164 k = D 2 k ∧ τ 165 k = D 3 k
theorem AR.of {τ τ' : St} {n : Nat} {D : Nat → Nat → Int32} (h : AR τ n D) (f : FR τ τ') : AR τ' n D := fun k hk => by rw [f.1 163 (by decide), f.1 164 (by decide), f.1 165 (by decide)]; exact h k hk
theorem s_readSkittle {τ : St} {lt : Nat → Int32} {m j n : Nat} {D : Nat → Nat → Int32} (hT : TxT lt m) (hC : CT τ lt m) (hj : j < m) (h5 : τ 161 5 = nI j) (h8 : τ 161 8 = 0) (h32 : ¬ lt j = 32) (hn : n ≤ 9) (h7 : τ 161 7 = nI n) (hA : AR τ n D) {P : St → Prop}
    (h3 : (lt j = 103 ∨ lt j = 115 ∧ n = 9) → ∀ τ', FA τ τ' → τ' 161 8 = 3 → τ' 161 9 = nI j → P τ')
    (h1 : (¬ lt j = 103 ∧ ¬ lt j = 115) → ∀ τ', FA τ τ' → τ' 161 8 = 1 → τ' 161 9 = nI j → P τ')
    (hok : ∀ a b c j2, lt j = 115 → n < 9 → skF lt m (j + 1) = .ok (a, b, c, j2) → j < j2 → j2 ≤ m → ∀ τ', FA τ τ' → CT τ' lt m → τ' 161 5 = nI j2 → τ' 161 8 = 0 → τ' 161 9 = τ 161 9 → τ' 161 6 = τ 161 6 → τ' 161 7 = nI (n + 1) → AR τ' (n + 1) (stD D n a b c) → P τ')
    (hbad : ∀ kd pl, lt j = 115 → n < 9 → skF lt m (j + 1) = .error (kd, pl) → (kd = 1 ∨ kd = 2) → ∀ τ', FA τ τ' → τ' 161 8 = nI kd → τ' 161 9 = nI pl → P τ') : w_X2_readSkittle τ P := by
  have es : sk lt m j = j := sk_id h32
  have b27 : (lt j = 103 ∨ lt j = 115 ∧ n = 9) → w_X2_readSkittle_b27 P τ := by
    intro hx
    unfold w_X2_readSkittle_b27 w_X2_fail
    rw [h5]
    exact h3 hx _ (fun q h1 h2 h3 h4 => by rw [su_q h1, su_q h1]) (by rw [su_k (by decide)]; exact su_s) su_s
  have b37 : ¬ lt j = 103 → (lt j = 115 → n < 9) → w_X2_readSkittle_b37 P τ := by
    intro hng hns
    unfold w_X2_readSkittle_b37
    refine s_takeSign hT hC (by omega) h5 h8 (by decide) (fun j1 e1 l1 l2 τ1 f1 a5 a8 a9 => ?_) (fun pl e1 l1 τ1 f1 a8 a9 => ?_)
    · unfold sgF at e1
      rw [es] at e1
      by_cases c : lt j = 115
      · have hn9 := hns c
        rw [if_pos c] at e1
        have : j + 1 = j1 := by simpa using e1
        subst this
        refine s_takeNumber hT (f1.ct hC) l2 a5 a8 (fun a j2 e2 τ2 f2 b5 b8 b9 => ?_) (fun kd pl e2 v τ2 f2 b8 b9 => ?_)
        · obtain ⟨-, -, n3, n4⟩ := nu_ok e2 l2
          have F2 := f1.trans f2
          refine s_takeNumber hT (F2.ct hC) n4 b5 b8 (fun b j3 e3 τ3 f3 c5 c8 c9 => ?_) (fun kd pl e3 v τ3 f3 c8 c9 => ?_)
          · obtain ⟨-, -, o3, o4⟩ := nu_ok e3 n4
            have F3 := F2.trans f3
            refine s_takeNumber hT (F3.ct hC) o4 c5 c8 (fun cc j4 e4 τ4 f4 d5 d8 d9 => ?_) (fun kd pl e4 v τ4 f4 d8 d9 => ?_)
            · obtain ⟨-, -, q3, q4⟩ := nu_ok e4 o4
              have F4 := F3.trans f4
              refine s_takeSign hT (F4.ct hC) q4 d5 d8 (by decide) (fun j5 e5 l5 l6 τ5 f5 g5 g8 g9 => ?_) (fun pl e5 l5 τ5 f5 g8 g9 => ?_)
              · have F5 := F4.trans f5
                have k7 : τ5 161 7 = nI n := by rw [F5.2 7 (by decide) (by decide) (by decide)]; exact h7
                rw [g8, k7, cl_nI (by omega)]
                refine ⟨fun z => absurd rfl z, fun _ => ⟨fun z => absurd z (nI_ge (a := n) (b := 9) hn9 (by decide)), fun _ => ⟨in_nI hn9, ?_⟩⟩⟩
                rw [su_q (by decide), k7, cl_nI (by omega)]
                refine ⟨in_nI hn9, bS ?_⟩
                have k7b : su (su τ5 163 n a) 164 n b 161 7 = nI n := by rw [su_q (by decide), su_q (by decide)]; exact k7
                rw [k7b, cl_nI (by omega)]
                refine ⟨in_nI hn9, bS ?_⟩
                rw [su_q (by decide), k7b, nI_1]
                generalize hφ : su (su (su (su τ5 163 n a) 164 n b) 165 n cc) 161 7 (nI (n + 1)) = φ
                have o : ∀ q, q ≠ 161 → q ≠ 163 → q ≠ 164 → q ≠ 165 → φ q = τ5 q := fun q y1 y2 y3 y4 => by rw [← hφ, su_q y1, su_q y4, su_q y3, su_q y2]
                have k : ∀ i, i ≠ 7 → φ 161 i = τ5 161 i := fun i hi => by rw [← hφ, su_k hi, su_q (by decide), su_q (by decide), su_q (by decide)]
                have p163 : ∀ i, φ 163 i = if i = n then a else τ5 163 i := fun i => by rw [← hφ, su_q (by decide), su_q (by decide), su_q (by decide), su_ap, if_pos rfl]
                have p164 : ∀ i, φ 164 i = if i = n then b else τ5 164 i := fun i => by rw [← hφ, su_q (by decide), su_q (by decide), su_ap, if_pos rfl, su_q (by decide)]
                have p165 : ∀ i, φ 165 i = if i = n then cc else τ5 165 i := fun i => by rw [← hφ, su_q (by decide), su_ap, if_pos rfl, su_q (by decide), su_q (by decide)]
                refine hok a b cc j5 c hn9 ?_ (by omega) l6 φ (fun q y1 y2 y3 y4 => by rw [o q y1 y2 y3 y4, F5.1 q y1]) ⟨fun i hi => by rw [o 162 (by decide) (by decide) (by decide) (by decide)]; exact (F5.ct hC).1 i hi, by rw [k 4 (by decide)]; exact (F5.ct hC).2⟩ (by rw [k 5 (by decide)]; exact g5) (by rw [k 8 (by decide)]; exact g8) (by rw [k 9 (by decide), g9, d9, c9, b9, a9]) (by rw [k 6 (by decide), F5.2 6 (by decide) (by decide) (by decide)]) (by rw [← hφ]; exact su_s) (fun i hi => ?_)
                · unfold skF; rw [e2]; dsimp only; rw [e3]; dsimp only; rw [e4]; dsimp only; rw [e5]
                · rw [p163, p164, p165]
                  unfold stD
                  by_cases ei : i = n
                  · rw [if_pos ei, if_pos ei, if_pos ei, if_pos ei, if_pos ei, if_pos ei]
                    exact ⟨rfl, rfl, rfl⟩
                  · rw [if_neg ei, if_neg ei, if_neg ei, if_neg ei, if_neg ei, if_neg ei]
                    exact (hA.of F5) i (by omega)
              · have F5 := F4.trans f5
                refine ⟨fun _ => hbad 1 pl c hn9 ?_ (Or.inl rfl) τ5 F5.fa g8 g9, fun z => by rw [g8] at z; exact absurd z (by decide)⟩
                unfold skF; rw [e2]; dsimp only; rw [e3]; dsimp only; rw [e4]; dsimp only; rw [e5]
            · obtain ⟨k1, k2⟩ := nu_bad e4 o4
              have n8 : ¬ τ4 161 8 = 0 := by rw [d8]; exact nI_kd k1
              refine s_noSign n8 ⟨fun _ => hbad kd pl c hn9 ?_ k1 τ4 (F3.trans f4).fa d8 d9, fun z => absurd z n8⟩
              unfold skF; rw [e2]; dsimp only; rw [e3]; dsimp only; rw [e4]
          · obtain ⟨k1, k2⟩ := nu_bad e3 n4
            have n8 : ¬ τ3 161 8 = 0 := by rw [c8]; exact nI_kd k1
            refine s_noNum n8 (s_noSign n8 ⟨fun _ => hbad kd pl c hn9 ?_ k1 τ3 (F2.trans f3).fa c8 c9, fun z => absurd z n8⟩)
            unfold skF; rw [e2]; dsimp only; rw [e3]
        · obtain ⟨k1, k2⟩ := nu_bad e2 l2
          have n8 : ¬ τ2 161 8 = 0 := by rw [b8]; exact nI_kd k1
          refine s_noNum n8 (s_noNum n8 (s_noSign n8 ⟨fun _ => hbad kd pl c hn9 ?_ k1 τ2 (f1.trans f2).fa b8 b9, fun z => absurd z n8⟩))
          unfold skF; rw [e2]
      · rw [if_neg c] at e1; simp at e1
    · unfold sgF at e1
      rw [es] at e1
      by_cases c : lt j = 115
      · rw [if_pos c] at e1; simp at e1
      · rw [if_neg c] at e1
        have : j = pl := by simpa using e1
        subst this
        have n8 : ¬ τ1 161 8 = 0 := by rw [a8]; decide
        exact s_noNum n8 (s_noNum n8 (s_noNum n8 (s_noSign n8 ⟨fun _ => h1 ⟨hng, c⟩ τ1 f1.fa a8 a9, fun z => absurd z n8⟩)))
  unfold w_X2_readSkittle
  refine s_sees hT hC (by omega) h5 (by decide) ?_
  by_cases c1 : lt j = 103
  · rw [if_pos c1]
    exact ⟨fun _ => b27 (Or.inl c1), fun z => absurd z (by decide)⟩
  · rw [if_neg c1]
    refine ⟨fun z => absurd rfl z, fun _ => s_sees hT hC (by omega) h5 (by decide) ?_⟩
    rw [h7]
    by_cases c2 : lt j = 115
    · rw [if_pos c2]
      refine ⟨fun z => absurd z (by decide), fun _ => ⟨fun z => b37 c1 (fun _ => (nI_ltI (b := 9) (by omega) (by decide)).mp z), fun z => b27 (Or.inr ⟨c2, ?_⟩)⟩⟩
      have : ¬ n < 9 := fun y => z (nI_lt (b := 9) y (by decide))
      omega
    · rw [if_neg c2]
      exact ⟨fun _ => b37 c1 (fun z => absurd z c2), fun z => absurd rfl z⟩
/-- the program has read a text: a fault, or a county -/
theorem s_read {σ : St} {lt : Nat → Int32} {m : Nat} (hT : TxT lt m) (hC : CT σ lt m) {P : Int32 → St → Prop}
    (h : ∀ τ, FA σ τ → τ 161 4 = 0 → (τ 161 9 = if (rdA lt m).2.1 = 0 then -1 else nI (rdA lt m).2.2.1) → ((rdA lt m).2.1 = 0 → τ 161 6 = (rdA lt m).1 ∧ τ 161 7 = nI (rdA lt m).2.2.2.1 ∧ AR τ (rdA lt m).2.2.2.1 (rdA lt m).2.2.2.2) → P (nI (rdA lt m).2.1) τ) : w_X2_read σ P := by
  have hm := hT.1
  -- the end
  have b69 : ∀ (R : Int32 × Outc) τ, rdA lt m = R → FA σ τ → τ 161 8 = nI R.2.1 → (τ 161 9 = if R.2.1 = 0 then -1 else nI R.2.2.1) → (R.2.1 = 0 → τ 161 6 = R.1 ∧ τ 161 7 = nI R.2.2.2.1 ∧ AR τ R.2.2.2.1 R.2.2.2.2) → w_X2_read_b69 P τ := by
    intro R τ hR f1 f8 f9 fa
    subst hR
    unfold w_X2_read_b69
    rw [su_k (by decide), f8]
    refine h _ (fun q h1 h2 h3 h4 => by rw [su_q h1, f1 q h1 h2 h3 h4]) su_s (by rw [su_k (by decide)]; exact f9) (fun z => ?_)
    obtain ⟨a, b, c⟩ := fa z
    exact ⟨by rw [su_k (by decide)]; exact a, by rw [su_k (by decide)]; exact b, fun k hk => by rw [su_q (by decide), su_q (by decide), su_q (by decide)]; exact c k hk⟩
  have loop : ∀ f i j n D v τ, i + f = 240 → i ≤ j → j ≤ m → n ≤ 9 → rdA lt m = (v, rdS lt m f j n D) → FA σ τ → CT τ lt m → τ 161 5 = nI j → τ 161 8 = 0 → τ 161 9 = -1 → τ 161 6 = v → τ 161 7 = nI n → AR τ n D → w_X2_read_b38 P (f + 1) (nI i) τ := by
    intro f
    induction f with
    | zero =>
      intro i j n D v τ hi hij hjm hn hR f1 f2 f5 f8 f9 f6 f7 fA
      have : i = 240 := by omega
      subst this
      exact ⟨fun _ => b69 _ τ hR f1 f8 f9 (fun _ => ⟨f6, f7, fA⟩), fun z => absurd (by decide) z⟩
    | succ f ih =>
      intro i j n D v τ hi hij hjm hn hR f1 f2 f5 f8 f9 f6 f7 fA
      unfold w_X2_read_b38
      rw [f8]
      refine ⟨fun z => absurd z (nI_ge (a := i) (b := 240) (by omega) (by decide)), fun _ => ⟨fun z => absurd rfl z, fun _ => s_isMore hT f2 hjm f5 (fun θ g1 g5 g8 g9 => ?_)⟩⟩
      obtain ⟨a1, a2⟩ := sk_rng lt hjm
      have gF : FA σ θ := f1.trans g1.fa
      have gC := g1.ct f2
      have gA := fA.of g1
      have g6 : θ 161 6 = v := by rw [g1.2 6 (by decide) (by decide) (by decide)]; exact f6
      have g7 : θ 161 7 = nI n := by rw [g1.2 7 (by decide) (by decide) (by decide)]; exact f7
      have g8' : θ 161 8 = 0 := g8.trans f8
      have g9' : θ 161 9 = -1 := g9.trans f9
      unfold rdS at hR
      by_cases cm : sk lt m j < m
      · rw [if_neg (show ¬ m ≤ sk lt m j by omega)] at hR
        rw [if_pos cm]
        refine ⟨fun z => absurd z (by decide), fun _ => ?_⟩
        -- what the next turn does after a fault
        have stop : ∀ kd pl τ', rdA lt m = (v, kd, pl, n, D) → ¬ kd = 0 → kd < 4 → FA θ τ' → τ' 161 8 = nI kd → τ' 161 9 = nI pl → w_X2_read_b38 P (f + 1) (nI i + 1) τ' := by
          intro kd pl τ' hR hk hk4 y1 y8 y9
          have b := b69 (v, kd, pl, n, D) τ' hR (gF.trans y1) y8 (by rw [if_neg hk]; exact y9) (fun z => absurd z hk)
          unfold w_X2_read_b38
          refine ⟨fun _ => b, fun _ => ⟨fun _ => b, fun z => absurd (y8.symm.trans z) (nI_ne0 (by omega) (by omega))⟩⟩
        refine s_readSkittle hT gC cm g5 g8' (sk_32 hT j) hn g7 gA (fun hx τ' y1 y8 y9 => ?_) (fun hx τ' y1 y8 y9 => ?_) (fun a b c j2 hx hn9 e l1 l2 τ' y1 yC y5 y8 y9 y6 y7 yA => ?_) (fun kd pl hx hn9 e hk τ' y1 y8 y9 => ?_)
        · refine stop 3 (sk lt m j) τ' ?_ (by decide) (by decide) y1 y8 y9
          rcases hx with q | ⟨q, q2⟩
          · rw [if_pos q] at hR; exact hR
          · rw [if_neg (by rw [q]; decide), if_pos q, if_pos q2] at hR; exact hR
        · refine stop 1 (sk lt m j) τ' ?_ (by decide) (by decide) y1 y8 y9
          rw [if_neg hx.1, if_neg hx.2] at hR; exact hR
        · rw [if_neg (by rw [hx]; decide), if_pos hx, if_neg (by omega), e] at hR
          rw [nI_1]
          exact ih (i + 1) j2 (n + 1) _ v τ' (by omega) (by omega) l2 (by omega) hR (gF.trans y1) yC y5 y8 (y9.trans g9') (y6.trans g6) y7 yA
        · refine stop kd pl τ' ?_ (by omega) (by omega) y1 y8 y9
          rw [if_neg (by rw [hx]; decide), if_pos hx, if_neg (by omega), e] at hR; exact hR
      · rw [if_pos (show m ≤ sk lt m j by omega)] at hR
        rw [if_neg cm]
        exact ⟨fun _ => b69 _ θ hR gF g8' g9' (fun _ => ⟨g6, g7, gA⟩), fun z => absurd rfl z⟩
  unfold w_X2_read w_X2_read_b36
  refine bS ?_
  generalize hτ : su (su (su (su (su σ 161 5 0) 161 6 (-1)) 161 7 0) 161 8 0) 161 9 (-1) = τ
  have o : ∀ q, q ≠ 161 → τ q = σ q := fun q hq => by rw [← hτ, su_q hq, su_q hq, su_q hq, su_q hq, su_q hq]
  have k4 : τ 161 4 = nI m := by rw [← hτ, su_k (by decide), su_k (by decide), su_k (by decide), su_k (by decide), su_k (by decide)]; exact hC.2
  have k5 : τ 161 5 = nI 0 := by rw [← hτ, su_k (by decide), su_k (by decide), su_k (by decide), su_k (by decide), su_s]; rfl
  have k6 : τ 161 6 = -1 := by rw [← hτ, su_k (by decide), su_k (by decide), su_k (by decide), su_s]
  have k7 : τ 161 7 = nI 0 := by rw [← hτ, su_k (by decide), su_k (by decide), su_s]; rfl
  have k8 : τ 161 8 = 0 := by rw [← hτ, su_k (by decide), su_s]
  have k9 : τ 161 9 = -1 := by rw [← hτ, su_s]
  have hCτ : CT τ lt m := ⟨fun k hk => by rw [o 162 (by decide)]; exact hC.1 k hk, k4⟩
  refine s_isMore hT hCτ (Nat.zero_le _) k5 (fun θ g1 g5 g8 g9 => ?_)
  obtain ⟨a1, a2⟩ := sk_rng lt (Nat.zero_le m)
  have gF : FA σ θ := (show FA σ τ from fun q h1 _ _ _ => o q h1).trans g1.fa
  have g6 : θ 161 6 = -1 := by rw [g1.2 6 (by decide) (by decide) (by decide)]; exact k6
  have g7 : θ 161 7 = nI 0 := by rw [g1.2 7 (by decide) (by decide) (by decide)]; exact k7
  have rA : ∀ D, AR θ 0 D := fun D k hk => absurd hk (Nat.not_lt_zero k)
  by_cases cm : sk lt m 0 < m
  · rw [if_pos cm]
    refine ⟨fun z => absurd z (by decide), fun _ => ?_⟩
    have hRA : rdA lt m = rdA lt m := rfl
    conv at hRA => rhs; unfold rdA
    rw [if_neg (show ¬ m ≤ sk lt m 0 by omega)] at hRA
    have stop : ∀ kd pl τ', rdA lt m = (0, kd, pl, 0, fun _ _ => 0) → ¬ kd = 0 → kd < 4 → FA θ τ' → τ' 161 8 = nI kd → τ' 161 9 = nI pl → ∃ n6, w_X2_read_b38 P n6 0 τ' := by
      intro kd pl τ' hR hk hk4 y1 y8 y9
      have b := b69 (0, kd, pl, 0, fun _ _ => 0) τ' hR (gF.trans y1) y8 (by rw [if_neg hk]; exact y9) (fun z => absurd z hk)
      refine ⟨1, ?_⟩
      unfold w_X2_read_b38
      exact ⟨fun _ => b, fun _ => ⟨fun _ => b, fun z => absurd (y8.symm.trans z) (nI_ne0 (by omega) (by omega))⟩⟩
    refine s_readFloor hT (g1.ct hCτ) cm g5 (g8.trans k8) (sk_32 hT 0) (fun hx τ' y1 y8 y9 => ?_) (fun v j2 hx e l1 l2 τ' y1 yC y5 y8 y9 y6 y7 => ?_) (fun kd pl hx e hk τ' y1 y8 y9 => ?_)
    · exact stop 1 (sk lt m 0) τ' (by rw [hRA, if_neg hx]) (by decide) (by decide) y1 y8 y9
    · refine ⟨241, loop 240 0 j2 0 _ v τ' rfl (by omega) l2 (by decide) (by rw [hRA, if_pos hx, e]) (gF.trans y1) yC y5 y8 (y9.trans (g9.trans k9)) y6 (y7.trans g7) (fun k hk => absurd hk (Nat.not_lt_zero k))⟩
    · exact stop kd pl τ' (by rw [hRA, if_pos hx, e]) (by omega) (by omega) y1 y8 y9
  · rw [if_neg cm]
    refine ⟨fun _ => ⟨241, ?_⟩, fun z => absurd rfl z⟩
    have hRA : rdA lt m = (-1, rdS lt m 240 (sk lt m 0) 0 (fun _ _ => 0)) := by
      unfold rdA
      rw [if_pos (show m ≤ sk lt m 0 by omega)]
      unfold rdS
      rw [sk_id2 hT, if_pos (show m ≤ sk lt m 0 by omega)]
    exact loop 240 0 (sk lt m 0) 0 _ (-1) θ rfl (by omega) a2 (by decide) hRA gF (g1.ct hCτ) g5 (g8.trans k8) (g9.trans k9) g6 g7 (fun k hk => absurd hk (Nat.not_lt_zero k))
