/-! ===== all down: both walks ===== -/
theorem lpF_rng {C : Cty} (hC : COk C) (hc : ¬ cf C = -1) (line slant up : Int32) : ∀ m r, r + m = 5 → ∃ a : Nat, 1 ≤ a ∧ a < 2000 ∧ lpF C line slant up m r = nI a := by
  obtain ⟨d, hd, ed⟩ := hC.drag hc
  intro m
  induction m with
  | zero => intro r _; exact ⟨41, by decide, by decide, rfl⟩
  | succ m ih =>
    intro r hr
    unfold lpF
    have hrd : r * d ≤ 4 * 3 := Nat.mul_le_mul (by omega) hd
    split
    · exact ih (r + 1) (by omega)
    · obtain ⟨a, ha1, ha, ea⟩ := beC_rng hC (whoF (onC C) up (nI r) (line + nI r * (slant - 1))).toNatClampNeg
      rw [ea, ed, pk_mul, nI_add]
      exact ⟨a + r * d, by omega, by omega, rfl⟩
def XQ (τ : St) (S : QS) : Prop := (∀ t, t < 512 → τ 180 t = S.1 t) ∧ (∀ t, t < 512 → ¬ S.1 t = -1 → τ 181 t = S.2.1 t) ∧ (∀ i, i < S.2.2.2 → τ 179 i = S.2.2.1 i) ∧ τ 178 3 = nI S.2.2.2
theorem XQ.of {τ τ' : St} {S : QS} (h : XQ τ S) (h0 : τ' 178 3 = τ 178 3) (h1 : τ' 179 = τ 179) (h2 : τ' 180 = τ 180) (h3 : τ' 181 = τ 181) : XQ τ' S := by
  unfold XQ; rw [h0, h1, h2, h3]; exact h
theorem s_reach {C : Cty} {τ : St} {S : QS} {e k : Nat} (hQ : QI S e k) (he : e < S.2.2.2) (hX : XQ τ S) {P : St → Prop}
    (h : ∀ τ', (∀ q, (q < 178 ∨ 181 < q) → τ' q = τ q) → (∀ j, j ≠ 3 → τ' 178 j = τ 178 j) → XQ τ' (stpF C (qn S e) k S) → P τ') : w_X0_reach (nI (lfS C (qn S e) k)) (S.1 (qn S e) + 1) (if S.1 (qn S e) = 0 then nI k else S.2.1 (qn S e)) τ P := by
  have h512 := hQ.c512
  obtain ⟨s1, s2, s3⟩ := hQ.2.1 e he
  have hl := (lf_e C k s1).2
  obtain ⟨d1, d2, -⟩ := hQ.2.2.1 _ s1 s3
  obtain ⟨x1, x2, x3, x4⟩ := hX
  unfold stpF at h
  unfold w_X0_reach
  generalize lfS C (qn S e) k = l at hl h ⊢
  rw [x4, cl_nI (show l < 2 ^ 31 by omega), x1 l (by omega)]
  have keep : ¬ S.1 l = -1 → P τ := fun hv => by
    rw [if_neg hv] at h
    exact h τ (fun _ _ => rfl) (fun _ _ => rfl) ⟨x1, x2, x3, x4⟩
  refine ⟨fun z => absurd z (nI_pos (by omega)), fun _ => ⟨fun z => absurd z (nI_ge (a := l) (b := 512) (by omega) (by decide)), fun _ => ⟨fun z => keep ?_, fun _ => ⟨in_nI (by omega), fun hv => ?_, keep⟩⟩⟩⟩
  · intro hv
    have hne : ¬ S.1 (qn S e) + 1 = -1 := by rw [d1, nI_1]; exact nI_m1 (by omega)
    have := (vis_up (f := S.1) (p := l) (by omega) hv hne).2
    have := hQ.1
    exact nI_ge (a := S.2.2.2) (b := 512) (by unfold Q1 at this; omega) (by decide) z
  · have hne : ¬ S.1 (qn S e) + 1 = -1 := by rw [d1, nI_1]; exact nI_m1 (by omega)
    have hv2 := (vis_up (f := S.1) (p := l) (by omega) hv hne).2
    have hc : S.2.2.2 < 512 := by have := hQ.1; unfold Q1 at this; omega
    rw [if_pos hv] at h
    generalize S.1 (qn S e) + 1 = dv at h ⊢
    generalize (if S.1 (qn S e) = 0 then nI k else S.2.1 (qn S e)) = fv at h ⊢
    have e3 : su (su τ 180 l dv) 181 l fv 178 3 = nI S.2.2.2 := by rw [su_q (by decide), su_q (by decide)]; exact x4
    rw [e3, cl_nI (by omega)]
    refine ⟨in_nI (by omega), in_nI (by omega), in_nI hc, bS ?_⟩
    have e4 : su (su (su τ 180 l dv) 181 l fv) 179 S.2.2.2 (nI l) 178 3 = nI S.2.2.2 := by rw [su_q (by decide)]; exact e3
    rw [e4, nI_1]
    refine h _ (fun q hq => by rw [su_q (by omega), su_q (by omega), su_q (by omega), su_q (by omega)]) (fun j hj => by rw [su_k hj, su_q (by decide), su_q (by decide), su_q (by decide)]) ⟨fun t ht => ?_, fun t ht hvt => ?_, fun i hi => ?_, su_s⟩
    · rw [su_q (by decide), su_q (by decide), su_q (by decide), su_ap, if_pos rfl]
      show _ = upd S.1 l dv t
      unfold upd
      by_cases c : t = l
      · rw [if_pos c, if_pos c]
      · rw [if_neg c, if_neg c]; exact x1 t ht
    · have hvt' : ¬ upd S.1 l dv t = -1 := hvt
      rw [su_q (by decide), su_q (by decide), su_ap, if_pos rfl]
      show _ = upd S.2.1 l fv t
      unfold upd at hvt' ⊢
      by_cases c : t = l
      · rw [if_pos c, if_pos c]
      · rw [if_neg c, if_neg c, su_q (by decide)]
        rw [if_neg c] at hvt'
        exact x2 t ht hvt'
    · have hi' : i < S.2.2.2 + 1 := hi
      rw [su_q (by decide), su_ap, if_pos rfl]
      show _ = upd S.2.2.1 S.2.2.2 (nI l) i
      unfold upd
      by_cases c : i = S.2.2.2
      · rw [if_pos c, if_pos c]
      · rw [if_neg c, if_neg c, su_q (by decide), su_q (by decide)]; exact x3 i (by omega)
/-- what the walk leaves at the empty set -/
def At0 (τ : St) (S : QS) : Prop := ¬ S.1 0 = -1 ∧ τ 180 0 = S.1 0 ∧ τ 181 0 = S.2.1 0
theorem s_goOn {C : Cty} (hC : COk C) (hc : ¬ cf C = -1) {σ : St} {S : QS} {e : Nat} (hQ : QI S e 0) (he : e < S.2.2.2) (hX : XQ σ S) (hS : XS σ C) {P : St → Prop}
    (h : ∀ τ, (∀ q, (q < 171 ∨ q = 176 ∨ q = 177 ∨ 181 < q) → τ q = σ q) → (∀ j, j ≠ 3 → τ 178 j = σ 178 j) → XS τ C → (XQ τ (XP C S e 600) ∨ At0 τ (XP C S e 600)) → P τ) : w_X0_goOn (nI (qn S e)) σ P := by
  obtain ⟨s1, s2, s3⟩ := hQ.2.1 e he
  unfold w_X0_goOn
  refine ⟨fun z => absurd z (nI_pos (by omega)), fun _ => ⟨fun _ => ⟨16, ?_⟩, fun z => absurd (nI_lt (b := 512) s1 (by decide)) z⟩⟩
  have loop : ∀ m i τ, i + m = 15 → (∀ q, (q < 171 ∨ q = 176 ∨ q = 177 ∨ 181 < q) → τ q = σ q) → (∀ j, j ≠ 3 → τ 178 j = σ 178 j) → XS τ C → XQ τ (XP C S e (i * 40)) → w_X0_goOn_b14 (nI (qn S e)) P (m + 1) (nI i) τ := by
    intro m
    induction m with
    | zero =>
      intro i τ hi a1 a2 a3 a4
      have : i = 15 := by omega
      subst this
      unfold w_X0_goOn_b14
      exact ⟨fun _ => h τ a1 a2 a3 (Or.inl a4), fun c => absurd (by decide) c⟩
    | succ m ih =>
      intro i τ hi a1 a2 a3 a4
      obtain ⟨w1, w2, w3, w4, w5⟩ := hQ.exp (C := C) he (i * 40) (by omega)
      unfold w_X0_goOn_b14
      refine ⟨fun c => absurd c (nI_ge (a := i) (b := 15) (by omega) (by decide)), fun _ => ⟨fun c => h τ a1 a2 a3 (Or.inr ?_), fun c => ?_⟩⟩
      · have v0 : ¬ (XP C S e (i * 40)).1 0 = -1 := by rw [← a4.1 0 (by decide)]; exact c
        obtain ⟨k1, k2⟩ := XP_keep (C := C) hQ he (k := i * 40) (t := 0) (by decide) (600 - i * 40) (by omega) v0
        rw [show i * 40 + (600 - i * 40) = 600 by omega] at k1 k2
        exact ⟨by rw [k1]; exact v0, by rw [k1]; exact a4.1 0 (by decide), by rw [k2]; exact a4.2.1 0 (by decide) v0⟩
      · have e3 : nI i / 3 = nI (i / 3) := pk_div (d := 3) (by omega) (by decide) (by decide)
        have e4 : nI i - nI i / 3 * 3 = nI (i % 3) := pk_rem (d := 3) (by omega) (by decide) (by decide)
        rw [e4, e3]
        refine s_least a3 ?_
        have eS : ∀ j, j < 40 → faS C (nI (qn S e)) (i * 40 + j) = faC C (nI (qn S e)) (nI (i / 3)) (nI (i % 3)) (nI (j + 1)) := fun j hj => by
          rw [faS_fa, show (i * 40 + j) / 120 = i / 3 by omega, show (i * 40 + j) / 40 % 3 = i % 3 by omega, show 1 + (i * 40 + j) % 40 = j + 1 by omega]
        obtain ⟨a, ha1, ha2, ea⟩ := lpF_rng hC hc (nI (i / 3)) (nI (i % 3)) (nI (qn S e)) 5 0 rfl
        have skip : ∀ j, j ≤ 40 → j < a → XP C S e (i * 40 + j) = XP C S e (i * 40) := fun j hj hja => by
          refine XP_skip hQ he j (by omega) (fun x hx => ?_)
          have hf : faC C (nI (qn S e)) (nI (i / 3)) (nI (i % 3)) (nI (x + 1)) = 0 := fa_least hC hc (by omega) (by rw [ea]; exact nI_ge (by omega) (by omega))
          unfold lfS
          rw [eS x (by omega), hf]
          show (nI (qn S e) &&& -1).toNatClampNeg = _
          have : nI (qn S e) &&& -1 = nI (qn S e) := Int32.and_neg_one
          rw [this, cl_nI (by omega)]
        rw [ea]
        generalize hτ : su τ 171 5 (nI (qn S e)) = τ1
        have o1 : ∀ q, q ≠ 171 → τ1 q = τ q := fun q hq => by rw [← hτ, su_q hq]
        have b1 : ∀ q, (q < 171 ∨ q = 176 ∨ q = 177 ∨ 181 < q) → τ1 q = σ q := fun q hq => by rw [o1 q (by omega), a1 q hq]
        have b2 : ∀ j, j ≠ 3 → τ1 178 j = σ 178 j := fun j hj => by rw [o1 178 (by decide), a2 j hj]
        have b3 : XS τ1 C := a3.of (by rw [← hτ, su_k (by decide)]) (o1 172 (by decide)) (o1 173 (by decide))
        have b4 : XQ τ1 (XP C S e (i * 40)) := a4.of (by rw [o1 178 (by decide)]) (o1 179 (by decide)) (o1 180 (by decide)) (o1 181 (by decide))
        have inner : ∀ n j θ, j + n = 40 → (∀ q, (q < 171 ∨ q = 176 ∨ q = 177 ∨ 181 < q) → θ q = σ q) → (∀ j, j ≠ 3 → θ 178 j = σ 178 j) → XS θ C → XQ θ (XP C S e (i * 40 + j)) → w_X0_goOn_b51 (nI (qn S e)) (w_X0_goOn_b14 (nI (qn S e)) P (m + 1)) P (n + 1) (nI i) (nI (i / 3)) (nI (i % 3)) (nI (j + 1)) θ := by
          intro n
          induction n with
          | zero =>
            intro j θ hj c1 c2 c3 c4
            have : j = 40 := by omega
            subst this
            unfold w_X0_goOn_b51
            rw [nI_1]
            refine ⟨fun _ => ih (i + 1) θ (by omega) c1 c2 c3 ?_, fun c => absurd (by decide) c⟩
            rw [show (i + 1) * 40 = i * 40 + 40 by omega]; exact c4
          | succ n ihn =>
            intro j θ hj c1 c2 c3 c4
            obtain ⟨y1, y2, y3, y4, y5⟩ := hQ.exp (C := C) he (i * 40 + j) (by omega)
            have ys := (y1.2.1 e y2).2.2
            rw [y3] at ys
            have ei : (nI i * 40 + nI (j + 1)) - 1 = nI (i * 40 + j) := by
              have : (nI i * 40 + nI (j + 1)) = nI (i * 40 + j + 1) := by
                show nI i * nI 40 + nI (j + 1) = _
                rw [pk_mul, nI_add, Nat.add_assoc]
              rw [this, nI_pred]
            unfold w_X0_goOn_b51
            rw [ei]
            refine ⟨fun c => absurd c (nI_nlt (a := 40) (b := j + 1) (by omega) (by decide)), fun _ => s_xgo c3 (fun θ2 z1 z2 z6 z7 => ⟨in_nI s1, ?_⟩)⟩
            have g1 : ∀ q, (q < 171 ∨ q = 176 ∨ q = 177 ∨ 181 < q) → θ2 q = σ q := fun q hq => by rw [z1 q (by omega) (by omega) (by omega), c1 q hq]
            have g2 : ∀ j, j ≠ 3 → θ2 178 j = σ 178 j := fun j hj => by rw [z1 178 (by decide) (by decide) (by decide), c2 j hj]
            have g3 : XS θ2 C := c3.of (z2 4 (by decide) (by decide) (by decide)) (z1 172 (by decide) (by decide) (by decide)) (z1 173 (by decide) (by decide) (by decide))
            have g4 : XQ θ2 (XP C S e (i * 40 + j)) := c4.of (by rw [z1 178 (by decide) (by decide) (by decide)]) (z1 179 (by decide) (by decide) (by decide)) (z1 180 (by decide) (by decide) (by decide)) (z1 181 (by decide) (by decide) (by decide))
            rw [cl_nI (by omega), g4.1 _ s1, g4.2.1 _ s1 ys]
            have b98 : ∀ s0 : Int32, s0 = (if (XP C S e (i * 40 + j)).1 (qn S e) = 0 then nI (i * 40 + j) else (XP C S e (i * 40 + j)).2.1 (qn S e)) → w_X0_goOn_b98 (nI (qn S e)) (w_X0_goOn_b14 (nI (qn S e)) P (m + 1)) (w_X0_goOn_b51 (nI (qn S e)) (w_X0_goOn_b14 (nI (qn S e)) P (m + 1)) P (n + 1)) P (nI i) (nI (i / 3)) (nI (i % 3)) (nI (j + 1)) (faC C (nI (qn S e)) (nI (i / 3)) (nI (i % 3)) (nI (j + 1))) s0 θ2 := by
              intro s0 hs0
              unfold w_X0_goOn_b98
              rw [hs0, cl_nI (by omega), g4.1 _ s1, ← eS j (by omega), (lf_e C (i * 40 + j) s1).1, nI_1]
              refine ⟨in_nI s1, ?_⟩
              have hr := s_reach (C := C) (τ := θ2) (P := fun σ16 => w_X0_goOn_b51 (nI (qn S e)) (w_X0_goOn_b14 (nI (qn S e)) P (m + 1)) P (n + 1) (nI i) (nI (i / 3)) (nI (i % 3)) (nI (j + 1 + 1)) σ16) y1 y2 g4 (fun θ3 f1 f2 f3 => ?_)
              · rw [y3] at hr; exact hr
              · rw [y3, ← XP_s] at f3
                exact ihn (j + 1) θ3 (by omega) (fun q hq => by rw [f1 q (by omega), g1 q hq]) (fun x hx => by rw [f2 x hx, g2 x hx]) (g3.of (by rw [f1 171 (by omega)]) (f1 172 (by omega)) (f1 173 (by omega))) f3
            refine ⟨fun c => ⟨in_nI s1, b98 _ (by rw [if_neg c])⟩, fun c => b98 _ (by rw [if_pos c])⟩
        by_cases c41 : a ≤ 41
        · obtain ⟨j0, rfl⟩ : ∃ j0, a = j0 + 1 := ⟨a - 1, by omega⟩
          refine ⟨40 - j0 + 1, inner (40 - j0) j0 τ1 (by omega) b1 b2 b3 ?_⟩
          rw [skip j0 (by omega) (by omega)]; exact b4
        · refine ⟨1, ?_⟩
          unfold w_X0_goOn_b51
          rw [nI_1]
          refine ⟨fun _ => ih (i + 1) τ1 (by omega) b1 b2 b3 ?_, fun c => absurd (nI_lt (a := 40) (b := a) (by omega) (by omega)) c⟩
          rw [show (i + 1) * 40 = i * 40 + 40 by omega, skip 40 (by omega) (by omega)]; exact b4
  exact loop 15 0 σ rfl (fun _ _ => rfl) (fun _ _ => rfl) hS (by rw [show 0 * 40 = 0 from rfl, XP_0]; exact hX)
def Tgt (C : Cty) (S : QS) (e : Nat) : Prop := (bfsF C (512 - e) e S).1 0 = adN C ∧ (bfsF C (512 - e) e S).2.1 0 = (bfsF C 512 0 (bfs0 C)).2.1 0
theorem Tgt.next {C : Cty} {S : QS} {e : Nat} (h : Tgt C S e) (hQ : QI S e 0) (he : e < S.2.2.2) : Tgt C (XP C S e 600) (e + 1) := by
  have h512 := hQ.c512
  unfold Tgt at h ⊢
  by_cases c : S.1 0 = -1
  · rw [show 512 - e = (512 - (e + 1)) + 1 by omega, bfsF_go C _ e ⟨he, c⟩] at h
    exact h
  · rw [bfsF_end C _ e (fun z => c z.2)] at h
    obtain ⟨-, -, -, k4, -⟩ := hQ.exp (C := C) he 600 (Nat.le_refl _)
    obtain ⟨k1, k2⟩ := k4 0 (by decide) c
    rw [bfsF_end C _ (e + 1) (fun z => c (k1.symm.trans z.2)), k1, k2]
    exact h
theorem Tgt.done {C : Cty} {S : QS} {e : Nat} (h : Tgt C S e) (he : ¬ (e < S.2.2.2 ∧ S.1 0 = -1)) : S.1 0 = adN C ∧ S.2.1 0 = (bfsF C 512 0 (bfs0 C)).2.1 0 := by
  unfold Tgt at h
  rw [bfsF_end C _ e he] at h
  exact h
theorem s_run {σ : St} {C : Cty} (hC : COk C) (hc : ¬ cf C = -1) (hG : GX σ 0 C) (hA : AX σ C) {P : St → Prop}
    (h : ∀ σ', (∀ q, (q < 171 ∨ q = 176 ∨ q = 177 ∨ 181 < q) → σ' q = σ q) → σ' 178 4 = 1 → σ' 178 5 = adN C → σ' 178 6 = adF C → P σ') : w_X0_run 0 σ P := by
  unfold w_X0_run
  refine ⟨fun c => ?_, fun c => ?_⟩
  · refine s_prepare ⟨by decide, by decide⟩ hC hG (fun τ1 p1 p2 p3 p4 p5 => s_fill (by decide) ?_)
    obtain ⟨u, hu, hu2, eu⟩ := hC.up
    generalize hτ2 : su (sa τ1 180 (fl 512 (τ1 180) (-1))) 178 3 0 = τ2
    have o2 : ∀ q, q ≠ 180 → q ≠ 178 → τ2 q = τ1 q := fun q b1 b2 => by rw [← hτ2, su_q b2, sa_ne b1]
    have k180 : ∀ t, t < 512 → τ2 180 t = -1 := fun t ht => by rw [← hτ2, su_q (by decide), sa_self]; exact fl_in ht
    have k3 : τ2 178 3 = 0 := by rw [← hτ2]; exact su_s
    have k8 : ∀ j, j ≠ 3 → τ2 178 j = τ1 178 j := fun j hj => by rw [← hτ2, su_k hj, sa_ne (by decide)]
    have e9 : τ2 0 9 = nI u := by rw [o2 0 (by decide) (by decide), p1 0 (by decide) (by decide) (by decide), ← eu]; exact hG.2.2.1
    rw [e9]
    have b80 : ∀ τ, (∀ q, (q < 171 ∨ q = 176 ∨ q = 177 ∨ 181 < q) → τ q = σ q) → τ 180 0 = adN C → (¬ adN C = -1 → τ 181 0 = (bfsF C 512 0 (bfs0 C)).2.1 0) → w_X0_run_b80 0 P τ := by
      intro τ a1 a2 a3
      unfold w_X0_run_b80 w_X0_run_b109
      rw [su_s, a2]
      have fin : ∀ f : Int32, f = adF C → P (su (su (su τ 178 5 (adN C)) 178 6 f) 178 4 1) := fun f hf => h _ (fun q hq => by rw [su_q (by omega), su_q (by omega), su_q (by omega), a1 q hq]) su_s (by rw [su_k (by decide), su_k (by decide), su_s]) (by rw [su_k (by decide), su_s]; exact hf)
      refine ⟨fun z => fin _ ?_, fun z => fin _ ?_⟩
      · rw [su_q (by decide), a3 z]; unfold adF; rw [if_neg z]
      · unfold adF; rw [if_pos z]
    have loop : ∀ m e τ S, e + m = 512 → QI S e 0 → Tgt C S e → (∀ q, (q < 171 ∨ q = 176 ∨ q = 177 ∨ 181 < q) → τ q = σ q) → XS τ C → XQ τ S → w_X0_run_b38 0 P (m + 1) (nI e) τ := by
      intro m
      induction m with
      | zero =>
        intro e τ S hem hQ hT a1 a2 a3
        have h512 := hQ.c512
        have d := hT.done (fun z => by omega)
        have b := b80 τ a1 ((a3.1 0 (by decide)).trans d.1) (fun z => (a3.2.1 0 (by decide) (by rw [d.1]; exact z)).trans d.2)
        unfold w_X0_run_b38
        rw [a3.2.2.2]
        exact ⟨fun _ => b, fun z => absurd (nI_le (by omega) (by omega)) z⟩
      | succ m ih =>
        intro e τ S hem hQ hT a1 a2 a3
        have h512 := hQ.c512
        have bd : ¬ (e < S.2.2.2 ∧ S.1 0 = -1) → w_X0_run_b80 0 P τ := fun hn => by
          have d := hT.done hn
          exact b80 τ a1 ((a3.1 0 (by decide)).trans d.1) (fun z => (a3.2.1 0 (by decide) (by rw [d.1]; exact z)).trans d.2)
        unfold w_X0_run_b38
        rw [a3.2.2.2, a3.1 0 (by decide)]
        refine ⟨fun z => bd (fun y => nI_ge y.1 (by omega) z), fun z => ⟨fun y => absurd y (nI_ge (a := e) (b := 512) (by omega) (by decide)), fun _ => ⟨fun y => bd (fun w => y w.2), fun y => ⟨in_nI (by omega), ?_⟩⟩⟩⟩
        have he : e < S.2.2.2 := Nat.lt_of_not_le (fun w => z (nI_le w (by omega)))
        rw [cl_nI (by omega), a3.2.2.1 e he, (hQ.2.1 e he).2.1]
        refine s_goOn hC hc hQ he a3 a2 (fun τ3 f1 f2 f3 f4 => ?_)
        have f1' : ∀ q, (q < 171 ∨ q = 176 ∨ q = 177 ∨ 181 < q) → τ3 q = σ q := fun q hq => by rw [f1 q hq, a1 q hq]
        obtain ⟨y1, y2, y3, y4, y5⟩ := hQ.exp (C := C) he 600 (Nat.le_refl _)
        rw [nI_1]
        rcases f4 with f4 | ⟨z0, z1, z2⟩
        · exact ih (e + 1) τ3 _ (by omega) (y1.next (C := C) y2) (hT.next hQ he) f1' f3 f4
        · have d := (hT.next hQ he).done (fun w => z0 w.2)
          have b := b80 τ3 f1' (z1.trans d.1) (fun _ => z2.trans d.2)
          unfold w_X0_run_b38
          refine ⟨fun _ => b, fun _ => ⟨fun _ => b, fun _ => ⟨fun _ => b, fun w => absurd (z1.symm.trans w) z0⟩⟩⟩
    unfold w_X0_reach
    rw [cl_nI (by omega), k180 u hu, k3]
    refine ⟨fun z => absurd z (nI_pos (by omega)), fun _ => ⟨fun z => absurd z (nI_ge (a := u) (b := 512) hu (by decide)), fun _ => ⟨fun z => absurd z (by decide), fun _ => ⟨in_nI hu, fun _ => ⟨in_nI hu, in_nI hu, ?_⟩, fun z => absurd rfl z⟩⟩⟩⟩
    have e3 : su (su τ2 180 u 0) 181 u (-1) 178 3 = 0 := by rw [su_q (by decide), su_q (by decide)]; exact k3
    rw [e3]
    refine ⟨in_nI (n := 0) (by decide), bS ⟨513, ?_⟩⟩
    have e4 : su (su (su τ2 180 u 0) 181 u (-1)) 179 (0 : Int32).toNatClampNeg (nI u) 178 3 = 0 := by rw [su_q (by decide)]; exact e3
    rw [e4]
    have hb : (bfs0 C).1 = upd (fun _ => -1) u 0 := by unfold bfs0; rw [eu, cl_nI (by omega)]
    refine loop 512 0 _ (bfs0 C) rfl (bfs0_ok hC) ⟨rfl, rfl⟩ (fun q hq => ?_) ?_ ⟨fun t ht => ?_, fun t ht hv => ?_, fun i hi => ?_, su_s⟩
    · rw [su_q (by omega), su_q (by omega), su_q (by omega), su_q (by omega), o2 q (by omega) (by omega), p1 q (by omega) (by omega) (by omega)]
    · refine (show XS τ1 C from ⟨p2, p4, p5⟩).of ?_ ?_ ?_
      · rw [su_q (by decide), su_q (by decide), su_q (by decide), su_q (by decide), o2 171 (by decide) (by decide)]
      · rw [su_q (by decide), su_q (by decide), su_q (by decide), su_q (by decide), o2 172 (by decide) (by decide)]
      · rw [su_q (by decide), su_q (by decide), su_q (by decide), su_q (by decide), o2 173 (by decide) (by decide)]
    · rw [su_q (by decide), su_q (by decide), su_q (by decide), su_ap, if_pos rfl, hb]
      unfold upd
      by_cases c : t = u
      · rw [if_pos c, if_pos c]
      · rw [if_neg c, if_neg c]; exact k180 t ht
    · have : t = u := by
        by_cases c : t = u
        · exact c
        · rw [hb] at hv; unfold upd at hv; rw [if_neg c] at hv; exact absurd rfl hv
      subst this
      rw [su_q (by decide), su_q (by decide), su_s]
      rfl
    · have hi' : i < 1 := hi
      have : i = 0 := by omega
      subst this
      have e0 : (bfs0 C).2.2.1 0 = nI u := by unfold bfs0 upd; dsimp only; rw [if_pos rfl, eu]
      rw [su_q (by decide), e0]
      exact su_s
  · rcases hA with z | ⟨z1, z2, z3⟩
    · exact absurd z c
    · exact h σ (fun _ _ => rfl) z1 z2 z3
