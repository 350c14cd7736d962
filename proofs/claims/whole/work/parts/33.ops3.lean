/-! ===== what is done: set up, lift, change, chip, replace ===== -/
def onesF (x : Int32) : Nat → Nat → Int32 → Int32
  | 0, _, a => a
  | m + 1, k, a => onesF x m (k + 1) (a + ((x >>> (nI k &&& 31)) &&& 1))
def popF (x : Int32) : Int32 := onesF x 9 0 0
def bcF (x : Int32) : Int32 :=
  let u1 := (x - (((x.toUInt32 >>> ((1 : Int32).toUInt32 &&& Int32.toUInt32 31)).toInt32) &&& (1431655765 : Int32)))
  let u2 := ((u1 &&& (858993459 : Int32)) + (((u1.toUInt32 >>> ((2 : Int32).toUInt32 &&& Int32.toUInt32 31)).toInt32) &&& (858993459 : Int32)))
  let u3 := ((u2 + ((u2.toUInt32 >>> ((4 : Int32).toUInt32 &&& Int32.toUInt32 31)).toInt32)) &&& (252645135 : Int32))
  let u4 := (u3 + ((u3.toUInt32 >>> ((8 : Int32).toUInt32 &&& Int32.toUInt32 31)).toInt32))
  let u5 := (u4 + ((u4.toUInt32 >>> ((16 : Int32).toUInt32 &&& Int32.toUInt32 31)).toInt32))
  (u5 &&& (63 : Int32))
theorem bc_pop : ∀ u : Fin 512, bcF (nI u.val) = popF (nI u.val) := by decide +kernel
theorem s_bitc {σ : St} {u : Nat} (hu : u < 512) {P : Int32 → St → Prop} (h : P (popF (nI u)) σ) : w_J6_bitCount_0f7a4 (nI u) σ P := by
  rw [← bc_pop ⟨u, hu⟩] at h
  exact h
theorem s_ones {σ : St} {x : Int32} {P : Int32 → St → Prop} (h : P (popF x) σ) : w_X8_ones x σ P := by
  have loop : ∀ m k a, k + m = 9 → P (onesF x m k a) σ → w_X8_ones_b4 x P (m + 1) a (nI k) σ := by
    intro m
    induction m with
    | zero =>
      intro k a hk hp
      have : k = 9 := by omega
      subst this
      exact ⟨fun _ => hp, fun c => absurd (by decide) c⟩
    | succ m ih =>
      intro k a hk hp
      unfold w_X8_ones_b4
      refine ⟨fun c => absurd c (nI_ge (a := k) (b := 9) (by omega) (by decide)), fun _ => ?_⟩
      rw [nI_1]
      exact ih (k + 1) _ (by omega) hp
  exact ⟨10, loop 9 0 0 rfl h⟩
theorem COk.up {C : Cty} (h : COk C) : ∃ u : Nat, u < 512 ∧ u < 2 ^ cn C ∧ cu C = nI u := by
  obtain ⟨u, hu, e⟩ := h.2.2.2.1
  have : (2 : Nat) ^ cn C ≤ 2 ^ 9 := Nat.pow_le_pow_right (by decide) h.1
  exact ⟨u, by omega, hu, e⟩
theorem s_remember {σ : St} {C : Cty} {L : List Cty} {I : Nat → Cty} (h : RelC σ C L I) {P : St → Prop}
    (hp : ∀ σ', (∀ q, (q < 32 ∨ 160 ≤ q) → q ≠ 166 → q ≠ 176 → q ≠ 178 → σ' q = σ q) → σ' 176 1 = 0 → σ' 178 4 = 0 → PX σ' (C :: L.take 15) → P σ') : w_X7_remember σ P := by
  obtain ⟨a1, a2, a3, a4, a5, a6, a7, a8, a9, a10, a11, a12, a13, a14⟩ := h
  unfold w_X7_remember
  refine s_push a1 (fun D hD => (a5 D hD).1) a2 a6 (fun τ ho hx => ?_)
  unfold w_X7_stirred
  refine hp _ (fun q b1 b2 b3 b4 => ?_) ?_ su_s ?_
  · rw [su_q b4, su_q b3]; exact ho q b1 b2
  · rw [su_q (by decide)]; exact su_s
  · exact hx.of (by rw [su_q (by decide), su_q (by decide)]) (by rw [su_q (by decide), su_q (by decide)]) (fun q b1 b2 => by rw [su_q (by omega), su_q (by omega)])
theorem RelC.past {σ : St} {C : Cty} {L : List Cty} {I : Nat → Cty} (h : RelC σ C L I) : ∀ D ∈ C :: L.take 15, COk D ∧ CC C D := by
  intro D hD
  rcases List.mem_cons.mp hD with e | e
  · subst e; exact ⟨h.1, CC.rf _⟩
  · exact h.2.2.2.2.1 D (List.mem_of_mem_take e)
/-- the end of a call that did something: what both did -/
theorem RelC.fin {σ τ ρ : St} {C C' : Cty} {L : List Cty} {I : Nat → Cty} (h : RelC σ C L I) (hC : COk C') (hcc : CC C C') (hG : GX τ 0 C') (hM : GM ρ 189 0 C') (hPX : PX τ (C :: L.take 15)) (hPM : PM ρ (C :: L.take 15))
    (ht : ∀ q, ((16 ≤ q ∧ q < 32) ∨ (160 ≤ q ∧ q < 166) ∨ (167 ≤ q ∧ q < 171) ∨ 182 ≤ q) → τ q = σ q) (hr : ∀ q, (q < 185 ∨ (186 ≤ q ∧ q < 189) ∨ q = 190 ∨ q = 191 ∨ q = 193 ∨ q = 194) → ρ q = τ q) (h48 : ρ 189 48 = σ 189 48) (e5 : ∀ k, k ≠ 0 → k ≠ 18 → k ≠ 26 → k ≠ 27 → k ≠ 28 → ρ 185 k = σ 185 k) (hT : τ 176 1 = 0) (hA : τ 178 4 = 0) : RelC ρ C' (C :: L.take 15) I := by
  refine h.done hC hcc (hG.of (fun q b1 b2 => hr q (by omega))) hM h.past (hPX.of (by rw [hr 166 (by omega)]) (by rw [hr 166 (by omega)]) (fun q b1 b2 => hr q (by omega))) hPM ?_ (fun q hq => ?_) ?_ e5 (by rw [hr 176 (by omega)]; exact hT) (by rw [hr 178 (by omega)]; exact hA)
  · have hs := h.2.2.2.2.2.2.2.2.2.2.1
    unfold SdX; rw [hr 160 (by omega), ht 160 (by omega), h48]; exact hs
  · rw [hr q (by omega), ht q (by omega)]
  · rw [hr 160 (by omega), ht 160 (by omega)]
def stC (C : Cty) : Cty := (cn C, cf C, cd C, ((1 : Int32) <<< (nI (cn C) &&& 31)) - 1, ct C, co C)
theorem full_nI : ∀ n : Fin 10, ((1 : Int32) <<< (nI n.val &&& 31)) - 1 = nI (2 ^ n.val - 1) := by decide +kernel
theorem stC_ok {C : Cty} (h : COk C) : COk (stC C) := by
  obtain ⟨h1, h2, h3, h4, h5⟩ := h
  refine ⟨h1, h2, h3, ⟨2 ^ cn C - 1, ?_, full_nI ⟨cn C, by omega⟩⟩, h5⟩
  have : 0 < 2 ^ cn C := Nat.pos_of_ne_zero (by simp)
  show 2 ^ cn C - 1 < 2 ^ cn C
  omega
theorem s_county {σ : St} {C : Cty} (hG : GX σ 0 C) {P : Int32 → St → Prop} (h1 : ¬ cf C = -1 → P 1 σ) (h0 : cf C = -1 → P 0 σ) : w_X3_isCounty 0 σ P := by
  unfold w_X3_isCounty
  rw [hG.1]
  exact ⟨h0, h1⟩
theorem MG.is1 {σ : St} {C : Cty} (h : MG σ C) (c : ¬ cf C = -1) : σ 185 7 = 1 ∧ σ 185 8 = cf C := by
  rcases h.2.2 with z | z
  · exact absurd z.1 c
  · exact z.2
theorem MG.is0 {σ : St} {C : Cty} (h : MG σ C) (c : cf C = -1) : σ 185 7 = 0 := by
  rcases h.2.2 with z | z
  · exact z.2
  · exact absurd c z.1
theorem op_setUp {σ : St} (h : Rel σ) : Two (w_X7_setUp σ) w_X8_setUp := by
  have h0 := h.su0 0
  obtain ⟨C, L, I, h⟩ := h
  have hn := h.1.1
  obtain ⟨u, hu, hu2, eu⟩ := h.1.up
  have hG := h.2.1
  unfold Two w_X7_setUp
  refine s_county hG (fun c => ⟨fun _ => ?_, fun z => absurd z (by decide)⟩) (fun c => ⟨fun z => absurd rfl z, fun _ => ?_⟩)
  · refine s_remember h (fun τ t1 t2 t3 t4 => ?_)
    have hGτ : GX τ 0 C := hG.of (fun q b1 b2 => t1 q (by omega) (by omega) (by omega) (by omega))
    rw [hGτ.2.2.1, eu, hGτ.2.1]
    refine s_bitc hu ?_
    unfold w_X3_standAll
    rw [hGτ.2.1]
    generalize hτ2 : su τ 0 9 (((1 : Int32) <<< (nI (cn C) &&& 31)) - 1) = τ2
    have o2 : ∀ q, q ≠ 0 → τ2 q = τ q := fun q b => by rw [← hτ2, su_q b]
    have k2 : ∀ k, k ≠ 9 → τ2 0 k = τ 0 k := fun k b => by rw [← hτ2, su_k b]
    show w_X8_setUp τ2 _
    unfold w_X8_setUp
    have e7 : su τ2 185 0 0 185 7 = 1 := by rw [su_k (by decide), o2 185 (by decide), t1 185 (by omega) (by decide) (by decide) (by decide)]; exact (h.2.2.2.1.is1 c).1
    rw [e7]
    refine ⟨fun _ => ?_, fun z => absurd z (by decide)⟩
    have ho3 : ∀ q, q ≠ 185 → 182 ≤ q → su τ2 185 0 0 q = σ q := fun q b1 b2 => by rw [su_q b1, o2 q (by omega), t1 q (by omega) (by omega) (by omega) (by omega)]
    have hk3 : ∀ k, k ≠ 0 → su τ2 185 0 0 185 k = σ 185 k := fun k b => by rw [su_k b, o2 185 (by decide), t1 185 (by omega) (by decide) (by decide) (by decide)]
    have hM3 : GM (su τ2 185 0 0) 189 0 C := h.2.2.1.of hn (fun k _ _ => by rw [ho3 189 (by decide) (by decide)])
    have hP3 : PM (su τ2 185 0 0) L := h.2.2.2.2.2.2.1.of (fun D hD => (h.2.2.2.2.1 D hD).1) (hk3 18 (by decide)) (ho3 192 (by decide) (by decide))
    refine s_notes h.1 (fun D hD => (h.2.2.2.2.1 D hD).1) hM3 hP3 (fun ρ r1 r2 r3 => ?_)
    have hMr : GM ρ 189 0 C := hM3.of hn (fun k _ _ => by rw [r1 189 (by decide) (by decide)])
    have e9 : ρ 185 9 = nI (cn C) := by rw [r2 9 (by decide), hk3 9 (by decide)]; exact h.2.2.2.1.1
    rw [hMr.z.2.1, eu, e9]
    refine s_ones ⟨rfl, stC C, C :: L.take 15, I, ?_⟩
    rw [e9]
    have hGs : GX τ2 0 (stC C) := by
      obtain ⟨g1, g2, g3, g4, g5, g6, g7⟩ := hGτ
      exact ⟨by rw [k2 7 (by decide)]; exact g1, by rw [k2 8 (by decide)]; exact g2, by rw [← hτ2]; exact su_s, by rw [k2 10 (by decide)]; exact g4, by rw [k2 11 (by decide)]; exact g5, fun i k b1 b2 b3 => by rw [o2 (0 + i) (by omega)]; exact g6 i k b1 b2 b3, fun p hp => by rw [o2 (0 + 7) (by omega)]; exact g7 p hp⟩
    refine RelC.fin (τ := τ2) h (stC_ok h.1) ⟨rfl, rfl, fun _ _ => rfl⟩ hGs ?_ (t4.of (by rw [o2 166 (by decide)]) (by rw [o2 166 (by decide)]) (fun q b1 b2 => o2 q (by omega))) ?_ (fun q hq => by rw [o2 q (by omega), t1 q (by omega) (by omega) (by omega) (by omega)]) (fun q hq => by rw [su_q (by omega), r1 q (by omega) (by omega), su_q (by omega)]) (by rw [su_k (by decide), r1 189 (by decide) (by decide), ho3 189 (by decide) (by decide)]) (fun k b1 b2 b3 b4 b5 => by rw [su_q (by decide), r2 k b2, hk3 k b1]) (by rw [o2 176 (by decide)]; exact t2) (by rw [o2 178 (by decide)]; exact t3)
    · obtain ⟨m1, m2, m3, m4⟩ := hMr.z
      exact GM.of_z ⟨fun k hk => by
        have hk' : k < cn C := hk
        rw [su_k (by omega), su_k (by omega), su_k (by omega), su_k (by omega), su_k (by omega)]; exact m1 k hk', su_s, by rw [su_k (by decide)]; exact m3, by rw [su_k (by decide)]; exact m4⟩
    · exact r3.of (fun D hD => (h.past D hD).1) (by rw [su_q (by decide)]) (by rw [su_q (by decide)])
  · show w_X8_setUp σ _
    unfold w_X8_setUp
    have e7 : su σ 185 0 0 185 7 = 0 := by rw [su_k (by decide)]; exact h.2.2.2.1.is0 c
    rw [e7]
    exact ⟨fun z => absurd rfl z, fun _ => ⟨rfl, h0⟩⟩
