/-! ===== the ball over a county: class and reference ===== -/
theorem swC_pp (C : Cty) (p : Nat) : swC C p p = C := by
  have e : (fun i k => if i = 4 then plS C p p k else cd C i k) = cd C := by
    funext i k
    by_cases h : i = 4
    · subst h
      rw [if_pos rfl]
      unfold plS swp
      by_cases h2 : cd C 4 k = nI p
      · rw [if_pos h2, h2]
      · rw [if_neg h2, if_neg h2]
    · rw [if_neg h]
  unfold swC
  rw [e]
def MS (σ : St) (D : Cty) : Prop := (∀ p, p < 9 → σ 195 p = onC D p) ∧ (∀ k, k < cn D → σ 196 k = beC D k) ∧ σ 185 8 = cf D
def XS (σ : St) (D : Cty) : Prop := σ 171 4 = cf D / 3 ∧ (∀ p, p < 9 → σ 172 p = onC D p) ∧ ∀ k, k < 9 → σ 173 k = beC D k
theorem MS.of {σ σ' : St} {D : Cty} (h : MS σ D) (h1 : σ' 195 = σ 195) (h2 : σ' 196 = σ 196) (h3 : σ' 185 8 = σ 185 8) : MS σ' D := by
  unfold MS; rw [h1, h2, h3]; exact h
theorem XS.of {σ σ' : St} {D : Cty} (h : XS σ D) (h1 : σ' 171 4 = σ 171 4) (h2 : σ' 172 = σ 172) (h3 : σ' 173 = σ 173) : XS σ' D := by
  unfold XS; rw [h1, h2, h3]; exact h
theorem drag_ok : ∀ a : Fin 10, ¬ 0 < (0 : Int32) - nI a.val / 3 := by decide +kernel
theorem COk.flr {C : Cty} (h : COk C) (hc : ¬ cf C = -1) : ∃ a : Nat, a ≤ 9 ∧ cf C = nI a := by
  rcases h.2.2.2.2 with ⟨z, -⟩ | z
  · exact absurd z hc
  · exact z
theorem s_mgo {σ : St} {D : Cty} (hD : COk D) (hc : ¬ cf D = -1) (hS : MS σ D) {up line slant pace : Int32} {P : Int32 → St → Prop}
    (h : ∀ σ', (∀ q, q ≠ 185 → q ≠ 197 → q ≠ 198 → q ≠ 199 → q ≠ 200 → q ≠ 201 → σ' q = σ q) → (∀ k, k ≠ 26 → k ≠ 27 → k ≠ 28 → σ' 185 k = σ 185 k) → σ' 185 26 = (blC D up line slant pace).1.1 → σ' 185 27 = (blC D up line slant pace).1.2.1 → σ' 185 28 = (blC D up line slant pace).2 → (∀ k, k < 9 → σ' 197 k = (blC D up line slant pace).1.2.2.1 k) → (∀ k, k < 9 → σ' 198 k = (blC D up line slant pace).1.2.2.2 k) → P (faC D up line slant pace) σ') : w_X8_goes up line slant pace σ P := by
  obtain ⟨s1, s2, s3⟩ := hS
  have ho : onOk (σ 195) := (onOk_onF hD.1).of s1
  obtain ⟨a, ha, ea⟩ := hD.flr hc
  have hdr : ¬ 0 < (0 : Int32) - σ 185 8 / 3 := by rw [s3, ea]; exact drag_ok ⟨a, by omega⟩
  have hEV : EV (σ 195) (σ 196) (onC D) (beC D) := ⟨s1, fun s hs hp => by
    obtain ⟨p, hp1, hp2⟩ := hp
    exact s2 s (onC_lt hD hs ((s1 p hp1).symm.trans hp2))⟩
  refine s_goes ho hdr (fun σ' hE => ?_)
  rw [s3]
  obtain ⟨hst, hBR⟩ := BR_bl hEV (cf D / 3) line slant pace up (r1 := fl 9 (σ 197) 0) (r2 := zf) (t1 := fl 9 (σ 198) (-2)) (t2 := m2) (fun k hk => fl_in hk)
  generalize (blF (σ 195) (σ 196) (cf D / 3) line slant pace up (fl 9 (σ 197) 0) (fl 9 (σ 198) (-2))) = B at hst hBR ⊢
  obtain ⟨B1, B2⟩ := B
  have hBR' : BR up (fl 9 (σ 198) (-2)) m2 B1 (blC D up line slant pace).1 := hBR
  have hst' : B2 = (blC D up line slant pace).2 := hst
  obtain ⟨q1, q2, q3, q4⟩ := hBR'
  dsimp only
  have e26 : pM (su σ' 185 28 B2) B1 185 26 = B1.1 := rfl
  have e27 : pM (su σ' 185 28 B2) B1 185 27 = B1.2.1 := rfl
  have e28 : pM (su σ' 185 28 B2) B1 185 28 = B2 := by rw [pM_f _ _ (by decide) (by decide)]; exact su_s
  have e197 : ∀ k, pM (su σ' 185 28 B2) B1 197 k = B1.2.2.1 k := fun _ => rfl
  have e198 : ∀ k, pM (su σ' 185 28 B2) B1 198 k = B1.2.2.2 k := fun _ => rfl
  have eo : ∀ q, q ≠ 185 → q ≠ 197 → q ≠ 198 → q ≠ 199 → q ≠ 200 → q ≠ 201 → pM (su σ' 185 28 B2) B1 q = σ q := fun q b1 b2 b3 b4 b5 b6 => by rw [pM_o _ _ b1 b2 b3, su_q b1]; exact hE q b4 b5 b6
  have ek : ∀ k, k ≠ 26 → k ≠ 27 → k ≠ 28 → pM (su σ' 185 28 B2) B1 185 k = σ 185 k := fun k b1 b2 b3 => by rw [pM_f _ _ b1 b2, su_k b3, hE 185 (by decide) (by decide) (by decide)]
  generalize pM (su σ' 185 28 B2) B1 = ρ at e26 e27 e28 e197 e198 eo ek ⊢
  rw [q1]
  show P (faC D up line slant pace) ρ
  refine h ρ eo ek (e26.trans q1) (e27.trans q2) (e28.trans hst') (fun k hk => (e197 k).trans (q3 k hk)) (fun k hk => (e198 k).trans ?_)
  rcases q4 k with ⟨z1, z2, -⟩ | ⟨z, -⟩
  · rw [z1, z2]; exact fl_in hk
  · exact z
theorem s_xgo {σ : St} {D : Cty} (hS : XS σ D) {up line slant pace : Int32} {P : Int32 → St → Prop}
    (h : ∀ σ', (∀ q, q ≠ 171 → q ≠ 174 → q ≠ 175 → σ' q = σ q) → (∀ k, k ≠ 5 → k ≠ 6 → k ≠ 7 → σ' 171 k = σ 171 k) → σ' 171 6 = (blC D up line slant pace).1.2.1 → σ' 171 7 = (blC D up line slant pace).2 → P (faC D up line slant pace) σ') : w_X5_send line slant pace up σ P := by
  obtain ⟨s1, s2, s3⟩ := hS
  have hEV : EV (σ 172) (σ 173) (onC D) (beC D) := ⟨s2, fun s hs _ => s3 s hs⟩
  refine s_send ?_
  rw [s1]
  obtain ⟨hst, hBU⟩ := BU_bl hEV (cf D / 3) line slant pace up (r1 := σ 175) (r2 := zf) (t1 := σ 174) (t2 := m2)
  generalize (blF (σ 172) (σ 173) (cf D / 3) line slant pace up (σ 175) (σ 174)) = B at hst hBU ⊢
  obtain ⟨B1, B2⟩ := B
  have hBU' : BU B1 (blC D up line slant pace).1 := hBU
  have hst' : B2 = (blC D up line slant pace).2 := hst
  obtain ⟨q1, q2⟩ := hBU'
  dsimp only
  have e6 : pR (su σ 171 7 B2) B1 171 6 = B1.2.1 := rfl
  have e7 : pR (su σ 171 7 B2) B1 171 7 = B2 := by rw [pR_f _ _ (by decide) (by decide)]; exact su_s
  have eo : ∀ q, q ≠ 171 → q ≠ 174 → q ≠ 175 → pR (su σ 171 7 B2) B1 q = σ q := fun q b1 b2 b3 => by rw [pR_o _ _ b1 b3 b2, su_q b1]
  have ek : ∀ k, k ≠ 5 → k ≠ 6 → k ≠ 7 → pR (su σ 171 7 B2) B1 171 k = σ 171 k := fun k b1 b2 b3 => by rw [pR_f _ _ b1 b2, su_k b3]
  generalize pR (su σ 171 7 B2) B1 = ρ at e6 e7 eo ek ⊢
  rw [q1]
  show P (faC D up line slant pace) ρ
  exact h ρ eo ek (e6.trans q2) (e7.trans hst')
theorem faS_fa (C : Cty) (set : Int32) (k : Nat) : faS C set k = faC C set (nI (k / 120)) (nI (k / 40 % 3)) (nI (1 + k % 40)) := by
  obtain ⟨-, hBU⟩ := BU_bl (on1 := onC C) (bear1 := beC C) (on2 := onC C) (bear2 := beC C) ⟨fun _ _ => rfl, fun _ _ _ => rfl⟩ (cf C / 3) (nI (k / 120)) (nI (k / 40 % 3)) (nI (1 + k % 40)) set (r1 := zf) (r2 := zf) (t1 := zf) (t2 := m2)
  unfold faS faC blC
  rw [hBU.1]
theorem s_setsC {σ : St} {C : Cty} (hC : COk C) (hc : ¬ cf C = -1) (hM : GM σ 189 0 C) (hG : MG σ C) {p q : Nat} (hp : p < 9) (hq : q < 9) {P : St → Prop}
    (h : ∀ σ', (∀ r, r ≠ 195 → r ≠ 196 → σ' r = σ r) → MS σ' (swC C p q) → P σ') : w_X8_sets (nI p) (nI q) σ P := by
  refine s_sets hC hM hG hp hq (fun σ' a b c => h σ' a ⟨fun r hr => b r hr, fun k hk => ?_, ?_⟩)
  · have hk' : k < cn C := hk
    rw [c k hk']
    unfold beC
    rw [if_pos hk]
    rfl
  · rw [a 185 (by decide) (by decide)]; exact (hG.is1 hc).2
theorem s_sets0 {σ : St} {C : Cty} (hC : COk C) (hc : ¬ cf C = -1) (hM : GM σ 189 0 C) (hG : MG σ C) {P : St → Prop}
    (h : ∀ σ', (∀ r, r ≠ 195 → r ≠ 196 → σ' r = σ r) → MS σ' C → P σ') : w_X8_sets 0 0 σ P := by
  refine s_setsC (p := 0) (q := 0) hC hc hM hG (by decide) (by decide) (fun σ' a b => h σ' a ?_)
  rw [swC_pp] at b; exact b
theorem mn9_le (x : Int32) : mn9 x = if x ≤ 9999 then x else 9999 := by
  unfold mn9
  by_cases h : x < 9999
  · rw [if_pos h, if_pos (Int32.le_of_lt h)]
  · rw [if_neg h]
    by_cases h2 : x ≤ 9999
    · rw [if_pos h2]; exact (Int32.le_antisymm h2 (Int32.not_lt.mp h)).symm
    · rw [if_neg h2]
theorem s_mthrow {σ : St} {C : Cty} (hC : COk C) (hc : ¬ cf C = -1) (hM : GM σ 189 0 C) (hG : MG σ C) {line slant pace : Int32} {P : Int32 → St → Prop}
    (h : ∀ σ', (∀ q, q ≠ 185 → q ≠ 189 → (q < 195 ∨ 202 ≤ q) → σ' q = σ q) → (∀ k, k ≠ 26 → k ≠ 27 → k ≠ 28 → σ' 185 k = σ 185 k) → σ' 189 48 = σ 189 48 → GM σ' 189 0 (thC C line slant pace) → P (faC C (cu C) line slant pace) σ') : w_X8_throwsBall line slant pace σ P := by
  have hn := hC.1
  obtain ⟨u, hu, hu2, eu⟩ := hC.up
  obtain ⟨m1, m45, m46, m47⟩ := hM.z
  unfold w_X8_throwsBall
  refine s_sets0 hC hc hM hG (fun τ t1 tS => ?_)
  have e9 : τ 185 9 = nI (cn C) := by rw [t1 185 (by decide) (by decide)]; exact hG.1
  have e45 : τ 189 45 = cu C := by rw [t1 189 (by decide) (by decide)]; exact m45
  rw [e9, e45]
  have main : ∀ v4 : Int32, ((¬ v4 = 0 ∧ faC C (cu C) line slant pace = 511) ↔ faC C (cu C) line slant pace = 511) → w_X8_throwsBall_b33 line slant pace P v4 τ := by
    intro v4 hv4
    unfold w_X8_throwsBall_b33
    rw [e45]
    refine s_mgo hC hc tS (fun ρ r1 r2 r26 r27 r28 r197 r198 => ⟨10, ?_⟩)
    rw [r26]
    generalize hB : (blC C (cu C) line slant pace) = B at r26 r27 r28 r197 r198 ⊢
    have key : ∀ m i θ, i + m = 9 → (∀ q, q ≠ 189 → θ q = ρ q) → (∀ k, ¬ (9 ≤ k ∧ k < 27) → k ≠ 45 → θ 189 k = ρ 189 k) → θ 189 45 = B.1.1 → (∀ k, k < 9 → θ 189 (9 + k) = if k < i then mn9 (ρ 189 (9 + k) + B.1.2.2.1 k) else ρ 189 (9 + k)) → (∀ k, k < 9 → θ 189 (18 + k) = if k < i then (if B.1.2.2.2 k = -2 then ρ 189 (18 + k) else B.1.2.2.2 k) else ρ 189 (18 + k)) → w_X8_throwsBall_b65 line slant pace P (m + 1) v4 (faC C (cu C) line slant pace) (nI i) θ := by
      intro m
      induction m with
      | zero =>
        intro i θ hi a1 a2 a3 a4 a5
        have : i = 9 := by omega
        subst this
        have r189 : ρ 189 = σ 189 := by rw [r1 189 (by decide) (by decide) (by decide) (by decide) (by decide) (by decide), t1 189 (by decide) (by decide)]
        rw [r189] at a2 a4 a5
        have fin : ∀ o : Int32, (o = if faC C (cu C) line slant pace = 511 then 1 else 0) → P (faC C (cu C) line slant pace) (su (su θ 189 46 (θ 189 46 + 1)) 189 47 (su θ 189 46 (θ 189 46 + 1) 189 47 + o)) := by
          intro o ho
          refine h _ (fun q b1 b2 b3 => ?_) (fun k b1 b2 b3 => ?_) ?_ (GM.of_z ⟨fun k hk => ?_, ?_, ?_, ?_⟩)
          · rw [su_q b2, su_q b2, a1 q b2, r1 q b1 (by omega) (by omega) (by omega) (by omega) (by omega), t1 q (by omega) (by omega)]
          · rw [su_q (by decide), su_q (by decide), a1 185 (by decide), r2 k b1 b2 b3, t1 185 (by decide) (by decide)]
          · rw [su_k (by decide), su_k (by decide), a2 48 (by decide) (by decide)]
          · have hk' : k < cn C := hk
            obtain ⟨c1, c2, c3, c4, c5⟩ := m1 k hk'
            have z : ∀ j, j ≠ 46 → j ≠ 47 → su (su θ 189 46 (θ 189 46 + 1)) 189 47 (su θ 189 46 (θ 189 46 + 1) 189 47 + o) 189 j = θ 189 j := fun j b1 b2 => by rw [su_k b2, su_k b1]
            rw [z k (by omega) (by omega), z (9 + k) (by omega) (by omega), z (18 + k) (by omega) (by omega), z (27 + k) (by omega) (by omega), z (36 + k) (by omega) (by omega)]
            rw [a2 k (by omega) (by omega), a2 (27 + k) (by omega) (by omega), a2 (36 + k) (by omega) (by omega), a4 k (by omega), a5 k (by omega), if_pos (show k < 9 by omega), if_pos (show k < 9 by omega), cd_th, cd_th, cd_th, cd_th, cd_th, hB]
            refine ⟨by rw [if_neg (by decide), if_neg (by decide)]; exact c1, by rw [if_pos rfl, c2], ?_, by rw [if_neg (by decide), if_neg (by decide)]; exact c4, by rw [if_neg (by decide), if_neg (by decide)]; exact c5⟩
            rw [if_neg (show ¬ (6 = 5) by decide), if_pos (show 6 = 6 from rfl), c3]
            have hb := fa_bt hC (cu C) line slant pace (show k < 9 by omega)
            rw [hB] at hb
            by_cases e : B.1.2.2.2 k = -2
            · rw [if_pos e, if_neg (fun w => hb.mp w e)]
            · rw [if_neg e, if_pos (hb.mpr e)]
          · rw [su_k (by decide), su_k (by decide), a3, cu_th, hB]
          · rw [su_k (by decide), su_s, a2 46 (by decide) (by decide), m46, ct_th]
          · rw [su_s, su_k (by decide), a2 47 (by decide) (by decide), m47, co_th, ho]
            by_cases e : faC C (cu C) line slant pace = 511
            · rw [if_pos e, if_pos e]
            · rw [if_neg e, if_neg e, Int32.add_zero]
        unfold w_X8_throwsBall_b65 w_X8_throwsBall_b202 w_X8_throwsBall_b203
        refine ⟨fun _ => ⟨fun c => ⟨in_nI (n := 47) (by decide), ?_⟩, fun c => ⟨fun c2 => ⟨in_nI (n := 47) (by decide), ?_⟩, fun c2 => ⟨in_nI (n := 47) (by decide), ?_⟩⟩⟩, fun c => absurd (by decide) c⟩
        · exact fin 0 (by rw [if_neg (fun z => (hv4.mpr z).1 c)])
        · exact fin 0 (by rw [if_neg c2])
        · exact fin 1 (by rw [if_pos c2])
      | succ m ih =>
        intro i θ hi a1 a2 a3 a4 a5
        have b9 : (9 : Int32) + nI i = nI (9 + i) := nI_add 9 i
        have b18 : (18 : Int32) + nI i = nI (18 + i) := nI_add 18 i
        have k9 : θ 189 (9 + i) = ρ 189 (9 + i) := by rw [a4 i (by omega), if_neg (by omega)]
        have k18 : θ 189 (18 + i) = ρ 189 (18 + i) := by rw [a5 i (by omega), if_neg (by omega)]
        have step : ∀ s2 : Int32, s2 = mn9 (ρ 189 (9 + i) + B.1.2.2.1 i) → w_X8_throwsBall_b117 line slant pace (w_X8_throwsBall_b65 line slant pace P (m + 1)) P v4 (faC C (cu C) line slant pace) (nI i) (nI (9 + i)) s2 θ := by
          intro s2 hs2
          have nx : ∀ v : Int32, v = (if B.1.2.2.2 i = -2 then ρ 189 (18 + i) else B.1.2.2.2 i) → w_X8_throwsBall_b65 line slant pace P (m + 1) v4 (faC C (cu C) line slant pace) (nI (i + 1)) (su (su θ 189 (9 + i) s2) 189 (18 + i) v) := by
            intro v hv
            refine ih (i + 1) _ (by omega) (fun q b1 => by rw [su_q b1, su_q b1]; exact a1 q b1) (fun k b1 b2 => by rw [su_k (by omega), su_k (by omega)]; exact a2 k b1 b2) (by rw [su_k (by omega), su_k (by omega)]; exact a3) (fun k hk => ?_) (fun k hk => ?_)
            · rw [su_k (by omega)]
              by_cases e : k = i
              · subst e; rw [su_s, if_pos (show k < k + 1 by omega)]; exact hs2
              · rw [su_k (by omega), a4 k hk]
                by_cases c3 : k < i
                · rw [if_pos c3, if_pos (show k < i + 1 by omega)]
                · rw [if_neg c3, if_neg (show ¬ k < i + 1 by omega)]
            · by_cases e : k = i
              · subst e; rw [su_s, if_pos (show k < k + 1 by omega)]; exact hv
              · rw [su_k (by omega), su_k (by omega), a5 k hk]
                by_cases c3 : k < i
                · rw [if_pos c3, if_pos (show k < i + 1 by omega)]
                · rw [if_neg c3, if_neg (show ¬ k < i + 1 by omega)]
          unfold w_X8_throwsBall_b117 w_X8_throwsBall_b159
          rw [b18, cl_nI (by omega), cl_nI (by omega), cl_nI (by omega), nI_1, su_q (by decide), a1 198 (by decide), r198 i (by omega), su_k (by omega), k18]
          refine ⟨in_nI (by omega), in_nI (by omega), fun c => ⟨in_nI (by omega), in_nI (by omega), ?_⟩, fun c => ⟨in_nI (by omega), in_nI (by omega), ?_⟩⟩
          · exact nx _ (by rw [if_neg c])
          · exact nx _ (by rw [if_pos c])
        unfold w_X8_throwsBall_b65
        rw [b9, cl_nI (by omega), cl_nI (by omega), k9, a1 197 (by decide), r197 i (by omega)]
        refine ⟨fun c => absurd c (nI_ge (a := i) (b := 9) (by omega) (by decide)), fun _ => ⟨in_nI (by omega), in_nI (by omega), bI ⟨fun c => ?_, fun c => ?_⟩⟩⟩
        · exact step _ (by rw [mn9_le, if_pos c])
        · exact step _ (by rw [mn9_le, if_neg c])
    exact key 9 0 _ rfl (fun q b => su_q b) (fun k b1 b2 => su_k b2) su_s (fun k hk => by rw [su_k (by omega), if_neg (by omega)]) (fun k hk => by rw [su_k (by omega), if_neg (by omega)])
  have f511 : faC C (cu C) line slant pace = 511 → cu C = 511 ∧ nI (cn C) = 9 := by
    intro e
    obtain ⟨f, hf, ef⟩ := fa_nI (C := C) u line slant pace
    rw [eu, ef] at e
    have hf2 : f = 511 := nI_inj (b := 511) (by omega) (by decide) e
    have hu3 : u = 511 := by omega
    refine ⟨by rw [eu, hu3]; rfl, ?_⟩
    have : ¬ cn C < 9 := fun z => by
      have : (2 : Nat) ^ cn C ≤ 2 ^ 8 := Nat.pow_le_pow_right (by decide) (by omega)
      omega
    have : cn C = 9 := by omega
    rw [this]; rfl
  refine ⟨fun c => ?_, fun c => ⟨fun c2 => ?_, fun c2 => ?_⟩⟩
  · exact main 0 ⟨fun z => z.2, fun z => absurd (f511 z).2 c⟩
  · exact main 0 ⟨fun z => z.2, fun z => absurd (f511 z).1 c2⟩
  · exact main 1 ⟨fun z => z.2, fun z => ⟨by decide, z⟩⟩
