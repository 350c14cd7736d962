/-! ===== ball, wouldFall, drift ===== -/
def isBl (l s p : Int32) : Prop := (∃ a : Nat, a < 5 ∧ l = nI a) ∧ (∃ b : Nat, b < 3 ∧ s = nI b) ∧ ∃ c : Nat, 1 ≤ c ∧ c ≤ 40 ∧ p = nI c
theorem s_inN {x : Int32} {lo hi : Nat} (hh : hi < 2 ^ 31) (hl : lo ≤ hi) {σ : St} {P : Int32 → St → Prop} (h1 : ∀ j : Nat, lo ≤ j → j ≤ hi → x = nI j → P 1 σ) (h0 : (¬ ∃ j : Nat, lo ≤ j ∧ j ≤ hi ∧ x = nI j) → P 0 σ) : w_X8_in x (nI lo) (nI hi) σ P := by
  refine s_in (fun c1 c2 => ?_) (fun c => h0 ?_)
  · have c0 : ¬ x < 0 := fun z => c1 (Int32.lt_of_lt_of_le z (nI_pos' (by omega)))
    obtain ⟨j, hj, rfl⟩ := nI_of c0
    exact h1 j (Nat.le_of_not_lt (fun z => c1 (nI_lt z (by omega)))) (Nat.le_of_not_lt (fun z => c2 (nI_lt z hj))) rfl
  · rintro ⟨j, hj1, hj2, rfl⟩
    rcases c with c | c
    · exact nI_nlt hj1 (by omega) c
    · exact nI_nlt hj2 hh c
theorem s_xBall {σ : St} {l s p : Int32} {P : Int32 → St → Prop} (h1 : isBl l s p → P 1 σ) (h0 : ¬ isBl l s p → P 0 σ) : w_X7_isBall l s p σ P := by
  refine ⟨fun c => h0 ?_, fun c1 => ⟨fun c => h0 ?_, fun c2 => ⟨fun c => h0 ?_, fun c3 => ⟨fun c => h0 ?_, fun c4 => ⟨fun c => h0 ?_, fun c5 => ⟨fun c => h0 ?_, fun c6 => h1 ?_⟩⟩⟩⟩⟩⟩
  · rintro ⟨⟨a, ha, rfl⟩, -⟩; exact nI_pos (by omega) c
  · rintro ⟨⟨a, ha, rfl⟩, -⟩; exact nI_ge (a := a) (b := 5) ha (by decide) c
  · rintro ⟨-, ⟨a, ha, rfl⟩, -⟩; exact nI_pos (by omega) c
  · rintro ⟨-, ⟨a, ha, rfl⟩, -⟩; exact nI_ge (a := a) (b := 3) ha (by decide) c
  · rintro ⟨-, -, ⟨a, ha, ha2, rfl⟩⟩; exact nI_nlt (a := a) (b := 1) ha (by omega) c
  · rintro ⟨-, -, ⟨a, ha, ha2, rfl⟩⟩; exact nI_nlt (a := 40) (b := a) ha2 (by decide) c
  · refine ⟨rg (n := 5) (by decide) c1 c2, rg (n := 3) (by decide) c3 c4, ?_⟩
    have c0 : ¬ p < 0 := fun z => c5 (Int32.lt_of_lt_of_le z (by decide))
    obtain ⟨j, hj, rfl⟩ := nI_of c0
    exact ⟨j, Nat.le_of_not_lt (fun z => c5 (nI_lt (b := 1) z (by decide))), Nat.le_of_not_lt (fun z => c6 (nI_lt (a := 40) z hj)), rfl⟩
theorem s_mBall {σ : St} {l s p : Int32} {P : Int32 → St → Prop} (h1 : isBl l s p → P 1 σ) (h0 : ¬ isBl l s p → P 0 σ) : w_X8_isBall l s p σ P := by
  refine s_inN (lo := 0) (hi := 4) (by decide) (by decide) (fun a _ ha ea => ⟨fun z => absurd z (by decide), fun _ => ?_⟩) (fun hn => ⟨fun _ => h0 ?_, fun z => absurd rfl z⟩)
  · refine s_inN (lo := 0) (hi := 2) (by decide) (by decide) (fun b _ hb eb => ⟨fun z => absurd z (by decide), fun _ => ?_⟩) (fun hn => ⟨fun _ => h0 ?_, fun z => absurd rfl z⟩)
    · refine s_inN (lo := 1) (hi := 40) (by decide) (by decide) (fun c hc hc2 ec => ⟨fun z => absurd z (by decide), fun _ => h1 ⟨⟨a, by omega, ea⟩, ⟨b, by omega, eb⟩, c, hc, hc2, ec⟩⟩) (fun hn => ⟨fun _ => h0 ?_, fun z => absurd rfl z⟩)
      rintro ⟨-, -, c, hc⟩; exact hn ⟨c, hc⟩
    · rintro ⟨-, ⟨b, hb, eb⟩, -⟩; exact hn ⟨b, by omega, by omega, eb⟩
  · rintro ⟨⟨b, hb, eb⟩, -⟩; exact hn ⟨b, by omega, by omega, eb⟩
theorem op_ball {σ : St} (h : Rel σ) (l s p : Int32) : Two (w_X7_ball l s p σ) (w_X8_ball l s p) := by
  have h0 := h.su0 0
  obtain ⟨C, L, I, h⟩ := h
  have hn := h.1.1
  have hG := h.2.1
  unfold Two w_X7_ball
  refine s_xBall (fun hb => ⟨fun _ => ?_, fun z => absurd z (by decide)⟩) (fun hb => ⟨fun z => absurd rfl z, fun _ => ?_⟩)
  · refine s_county hG (fun c => ⟨fun _ => ?_, fun z => absurd z (by decide)⟩) (fun c => ⟨fun z => absurd rfl z, fun _ => ?_⟩)
    · refine s_remember h (fun τ t1 t2 t3 t4 => ?_)
      have hGτ : GX τ 0 C := hG.of (fun q b1 b2 => t1 q (by omega) (by omega) (by omega) (by omega))
      refine s_throwOne h.1 hGτ (fun τ2 o2 hGs => ?_)
      show w_X8_ball l s p τ2 _
      unfold w_X8_ball
      refine s_mBall (fun _ => ⟨fun _ => ?_, fun z => absurd z (by decide)⟩) (fun z => absurd hb z)
      have e7 : su τ2 185 0 0 185 7 = 1 := by rw [su_k (by decide), o2 185 (by decide) (by omega), t1 185 (by omega) (by decide) (by decide) (by decide)]; exact (h.2.2.2.1.is1 c).1
      rw [e7]
      refine ⟨fun _ => ?_, fun z => absurd z (by decide)⟩
      refine s_notesR h (fun q b => by rw [o2 q (by omega) (by omega), t1 q (by omega) (by omega) (by omega) (by omega)]) (fun ρ r1 r2 r3 r4 r5 => ?_)
      refine s_mthrow h.1 c r3 r4 (fun ρ2 q1 q2 q3 q4 => ⟨rfl, thC C l s p, C :: L.take 15, I, ?_⟩)
      exact RelC.fin (τ := τ2) h (thC_ok h.1 l s p) thC_cc hGs q4 (t4.of (by rw [o2 166 (by decide) (by omega)]) (by rw [o2 166 (by decide) (by omega)]) (fun q b1 b2 => o2 q (by omega) (by omega))) (r5.of (fun D hD => (h.past D hD).1) (q2 18 (by decide) (by decide) (by decide)) (q1 192 (by decide) (by decide) (by omega))) (fun q hq => by rw [o2 q (by omega) (by omega), t1 q (by omega) (by omega) (by omega) (by omega)]) (fun q hq => by rw [q1 q (by omega) (by omega) (by omega), r1 q (by omega) (by omega)]) (by rw [q3, r1 189 (by decide) (by decide), o2 189 (by decide) (by omega), t1 189 (by omega) (by decide) (by decide) (by decide)]) (fun k b1 b2 b3 b4 b5 => by rw [q2 k b3 b4 b5, r2 k b1 b2]) (by rw [o2 176 (by decide) (by omega)]; exact t2) (by rw [o2 178 (by decide) (by omega)]; exact t3)
    · show w_X8_ball l s p σ _
      unfold w_X8_ball
      refine s_mBall (fun _ => ⟨fun _ => ?_, fun z => absurd z (by decide)⟩) (fun z => absurd hb z)
      have e7 : su σ 185 0 0 185 7 = 0 := by rw [su_k (by decide)]; exact h.2.2.2.1.is0 c
      rw [e7]
      exact ⟨fun z => absurd rfl z, fun _ => ⟨rfl, h0⟩⟩
  · show w_X8_ball l s p σ _
    unfold w_X8_ball
    exact s_mBall (fun z => absurd z hb) (fun _ => ⟨fun z => absurd rfl z, fun _ => ⟨rfl, h0⟩⟩)
theorem op_wouldFall {σ : St} (h : Rel σ) (l s p w : Int32) : Two (w_X7_wouldFall l s p w σ) (w_X8_wouldFall l s p w) := by
  have h0 := h.su0 0
  obtain ⟨C, L, I, h⟩ := h
  have hn := h.1.1
  have hG := h.2.1
  unfold Two w_X7_wouldFall
  have out : (w < 0 ∨ 2 < w) → w_X8_wouldFall l s p w σ (fun r' σ2 => (-1000000002 : Int32) = r' ∧ Rel σ2) := by
    intro c
    unfold w_X8_wouldFall
    refine s_mBall (fun _ => ⟨fun z => absurd z (by decide), fun _ => ?_⟩) (fun _ => ⟨fun _ => ⟨rfl, h0⟩, fun z => absurd rfl z⟩)
    exact s_in (fun c1 c2 => absurd c (by rintro (z | z); exact c1 z; exact c2 z)) (fun _ => ⟨fun z => absurd rfl z, fun _ => ⟨rfl, h0⟩⟩)
  refine s_xBall (fun hb => ⟨fun z => absurd z (by decide), fun _ => ⟨fun c => out (Or.inl c), fun c1 => ⟨fun c2 => ?_, fun c => out (Or.inr (Int32.not_le.mp c))⟩⟩⟩) (fun hb => ⟨fun _ => ?_, fun z => absurd rfl z⟩)
  · have inw : ∀ {τ : St} {Q : Int32 → St → Prop}, Q 1 τ → w_X8_in w 0 2 τ Q := fun hq => s_in (fun _ _ => hq) (fun z => absurd z (by rintro (z | z); exact c1 z; exact absurd c2 (Int32.not_le.mpr z)))
    refine s_county hG (fun c => ⟨fun _ => ?_, fun z => absurd z (by decide)⟩) (fun c => ⟨fun z => absurd rfl z, fun _ => ?_⟩)
    · refine s_prepare ⟨by decide, by decide⟩ h.1 hG (fun τ1 p1 p2 p3 p4 p5 => ?_)
      have e9 : τ1 0 9 = cu C := by rw [p1 0 (by decide) (by decide) (by decide)]; exact hG.2.2.1
      rw [e9]
      refine s_xgo (D := C) ⟨p2, p4, p5⟩ (fun τ2 o1 o2 o6 o7 => ?_)
      have ho : ∀ q, q < 171 ∨ 176 ≤ q → τ2 q = σ q := fun q b => by rw [o1 q (by omega) (by omega) (by omega), p1 q (by omega) (by omega) (by omega)]
      have key : ∀ r : Int32, r = (if w = 0 then faC C (cu C) l s p else if w = 1 then (blC C (cu C) l s p).1.2.1 else (blC C (cu C) l s p).2) → w_X8_wouldFall l s p w τ2 (fun r' σ2 => r = r' ∧ Rel σ2) := by
        intro r hr
        unfold w_X8_wouldFall
        refine s_mBall (fun _ => ⟨fun z => absurd z (by decide), fun _ => ?_⟩) (fun z => absurd hb z)
        refine inw ⟨fun _ => ?_, fun z => absurd z (by decide)⟩
        have e7 : su τ2 185 0 0 185 7 = 1 := by rw [su_k (by decide), ho 185 (by omega)]; exact (h.2.2.2.1.is1 c).1
        rw [e7]
        refine ⟨fun _ => ?_, fun z => absurd z (by decide)⟩
        have hk3 : ∀ k, k ≠ 0 → su τ2 185 0 0 185 k = σ 185 k := fun k b => by rw [su_k b, ho 185 (by omega)]
        have hM3 : GM (su τ2 185 0 0) 189 0 C := h.2.2.1.of hn (fun k _ _ => by rw [su_q (by decide), ho 189 (by omega)])
        have hG3 : MG (su τ2 185 0 0) C := h.2.2.2.1.of (hk3 7 (by decide)) (hk3 8 (by decide)) (hk3 9 (by decide)) (by rw [su_q (by decide), ho 188 (by omega)])
        refine s_sets0 h.1 c hM3 hG3 (fun ρ r1 rS => ?_)
        have e45 : ρ 189 45 = cu C := by rw [r1 189 (by decide) (by decide)]; exact hM3.z.2.1
        rw [e45]
        refine s_mgo h.1 c rS (fun ρ2 q1 q2 q26 q27 q28 q197 q198 => ?_)
        have hR : Rel ρ2 := by
          have hz : ∀ q, q ≠ 185 → q < 171 ∨ 176 ≤ q → ¬ (195 ≤ q ∧ q ≤ 201) → ρ2 q = σ q := fun q b1 b2 b3 => by rw [q1 q b1 (by omega) (by omega) (by omega) (by omega) (by omega), r1 q (by omega) (by omega), su_q b1, ho q b2]
          refine ⟨C, L, I, h.tried (fun q hq hs => ?_) (fun k b1 b2 b3 b4 => ?_) ?_ ?_⟩
          · have hs' : ¬ ((8 ≤ q ∧ q < 16) ∨ (171 ≤ q ∧ q < 182) ∨ q = 185 ∨ (195 ≤ q ∧ q < 205)) := hs
            exact hz q (by omega) (by omega) (by omega)
          · rw [q2 k b2 b3 b4, r1 185 (by decide) (by decide), hk3 k b1]
          · exact h.2.2.2.2.2.2.2.2.2.2.2.2.1.of (by rw [hz 176 (by decide) (by omega) (by omega)]) (hz 177 (by decide) (by omega) (by omega))
          · exact h.2.2.2.2.2.2.2.2.2.2.2.2.2.of (hz 178 (by decide) (by omega) (by omega))
        refine ⟨fun d0 => ⟨fun d1 => ⟨?_, hR⟩, fun d1 => ⟨?_, hR⟩⟩, fun d0 => ⟨?_, hR⟩⟩
        · rw [hr, if_neg d0, if_neg d1, q28]
        · rw [hr, if_neg d0, if_pos d1, q27]
        · rw [hr, if_pos d0]
      refine ⟨fun d0 => ⟨fun d1 => ?_, fun d1 => ?_⟩, fun d0 => ?_⟩
      · exact key _ (by rw [if_neg d0, if_neg d1, o7])
      · exact key _ (by rw [if_neg d0, if_pos d1, o6])
      · exact key _ (by rw [if_pos d0])
    · show w_X8_wouldFall l s p w σ _
      unfold w_X8_wouldFall
      refine s_mBall (fun _ => ⟨fun z => absurd z (by decide), fun _ => ?_⟩) (fun z => absurd hb z)
      refine inw ⟨fun _ => ?_, fun z => absurd z (by decide)⟩
      have e7 : su σ 185 0 0 185 7 = 0 := by rw [su_k (by decide)]; exact h.2.2.2.1.is0 c
      rw [e7]
      exact ⟨fun z => absurd rfl z, fun _ => ⟨rfl, h0⟩⟩
  · show w_X8_wouldFall l s p w σ _
    unfold w_X8_wouldFall
    exact s_mBall (fun z => absurd z hb) (fun _ => ⟨fun _ => ⟨rfl, h0⟩, fun z => absurd rfl z⟩)
/-! draws -/
def nsN (n : Nat) : Nat := (n * 1103515245 + 12345) % 2147483648
def dwN (n k : Nat) : Nat := nsN n / 65536 % k
theorem nsN_lt (n : Nat) : nsN n < 2 ^ 31 := Nat.mod_lt _ (by decide)
theorem l_mask (n : Nat) : lN n &&& 2147483647 = lN (n % 2147483648) := by
  apply Int64.toBitVec_inj.1
  show BitVec.ofNat 64 n &&& BitVec.ofNat 64 2147483647 = BitVec.ofNat 64 (n % 2147483648)
  apply BitVec.eq_of_toNat_eq
  rw [BitVec.toNat_and, BitVec.toNat_ofNat, BitVec.toNat_ofNat, BitVec.toNat_ofNat]
  rw [show 2147483647 % 2 ^ 64 = 2 ^ 31 - 1 from rfl, Nat.and_two_pow_sub_one_eq_mod]
  omega
theorem s_xdraw {σ : St} {n k : Nat} (hn : n < 2 ^ 31) (hs : σ 160 11 = nI n) (hk : 1 ≤ k) (hk2 : k < 2 ^ 31) {P : Int32 → St → Prop} (h : P (nI (dwN n k)) (su σ 160 11 (nI (nsN n)))) : w_X7_draw (nI k) σ P := by
  unfold w_X7_draw
  have e : (((((σ 160 11).toInt64) * (1103515245 : Int64)) + (12345 : Int64)) &&& (2147483647 : Int64)).toInt32 = nI (nsN n) := by
    rw [hs, nI_l hn]
    show ((lN n * lN 1103515245 + lN 12345) &&& 2147483647).toInt32 = _
    rw [lN_mul, lN_add, l_mask, lN_i]
    rfl
  rw [e]
  refine bS ?_
  rw [su_s]
  have e2 : nI (nsN n) / 65536 = nI (nsN n / 65536) := pk_div (d := 65536) (nsN_lt n) (by decide) (by decide)
  rw [e2, pk_rem (by have := nsN_lt n; omega) (by omega) hk2]
  exact ⟨fun _ => ⟨nI_ne0 (by omega) hk2, h⟩, fun z => absurd (nI_le (a := 1) hk hk2) z⟩
theorem s_mdraw {σ : St} {n k : Nat} (hn : n < 2 ^ 31) (hs : σ 189 48 = nI n) (hk : 1 ≤ k) (hk2 : k < 2 ^ 31) {P : Int32 → St → Prop} (h : P (nI (dwN n k)) (su σ 189 48 (nI (nsN n)))) : w_X8_draw (nI k) σ P := by
  unfold w_X8_draw
  have e : ((((σ 189 48).toInt64) * (1103515245 : Int64)) + (12345 : Int64)) - ((((σ 189 48).toInt64) * (1103515245 : Int64)) + (12345 : Int64)) / (2147483648 : Int64) * (2147483648 : Int64) = lN (nsN n) := by
    rw [hs, nI_l hn]
    show (lN n * lN 1103515245 + lN 12345) - (lN n * lN 1103515245 + lN 12345) / lN 2147483648 * lN 2147483648 = _
    rw [lN_mul, lN_add, pk_lRem (by omega) (by decide) (by decide)]
    rfl
  rw [e]
  refine bL ⟨nI_ne0 (by omega) hk2, ?_⟩
  rw [lN_i, su_s]
  have e2 : nI (nsN n) / 65536 = nI (nsN n / 65536) := pk_div (d := 65536) (nsN_lt n) (by decide) (by decide)
  rw [e2, pk_rem (by have := nsN_lt n; omega) (by omega) hk2]
  exact h
/-- one step of an age -/
def drF (S : Cty × Nat) : Cty × Nat :=
  if dwN S.2 4 < 2 then (thC S.1 (nI (dwN (nsN S.2) 5)) (nI (dwN (nsN (nsN S.2)) 3)) (nI (dwN (nsN (nsN (nsN S.2))) 40 + 1)), nsN (nsN (nsN (nsN S.2))))
  else if dwN S.2 4 = 2 then (stC S.1, nsN S.2)
  else (swC S.1 (dwN (nsN S.2) 9) (dwN (nsN (nsN S.2)) 9), nsN (nsN (nsN S.2)))
def itF {α : Type} (f : α → α) : Nat → α → α
  | 0, s => s
  | m + 1, s => itF f m (f s)
theorem itF_s {α : Type} (f : α → α) (m : Nat) (s : α) : itF f (m + 1) s = itF f m (f s) := rfl
theorem itF_0 {α : Type} (f : α → α) (s : α) : itF f 0 s = s := rfl
abbrev drN : Nat → Cty × Nat → Cty × Nat := itF drF
theorem drF_ok {S : Cty × Nat} (h : COk S.1) (hs : S.2 < 2 ^ 31) : COk (drF S).1 ∧ CC S.1 (drF S).1 ∧ (drF S).2 < 2 ^ 31 := by
  unfold drF
  split
  · exact ⟨thC_ok h _ _ _, thC_cc, nsN_lt _⟩
  · split
    · exact ⟨stC_ok h, ⟨rfl, rfl, fun _ _ => rfl⟩, nsN_lt _⟩
    · exact ⟨swC_ok h (Nat.mod_lt _ (by decide)) (Nat.mod_lt _ (by decide)), swC_cc, nsN_lt _⟩
theorem drN_ok : ∀ (m : Nat) {S : Cty × Nat}, COk S.1 → S.2 < 2 ^ 31 → COk (drN m S).1 ∧ CC S.1 (drN m S).1 ∧ (drN m S).2 < 2 ^ 31 := by
  intro m
  induction m with
  | zero => intro S h hs; exact ⟨h, CC.rf _, hs⟩
  | succ m ih =>
    intro S h hs
    have hd := drF_ok h hs
    have e : drN (m + 1) S = drN m (drF S) := itF_s drF m S
    rw [e]
    generalize drF S = T at hd ⊢
    obtain ⟨a, b, c⟩ := hd
    obtain ⟨a2, b2, c2⟩ := ih a c
    exact ⟨a2, b.trans b2, c2⟩
theorem s_xdrift1 {σ : St} {S : Cty × Nat} (hC : COk S.1) (hs : S.2 < 2 ^ 31) (hG : GX σ 0 S.1) (h11 : σ 160 11 = nI S.2) {P : St → Prop}
    (h : ∀ σ', (∀ q, 8 ≤ q → q ≠ 160 → (q < 171 ∨ 176 ≤ q) → σ' q = σ q) → (∀ k, k ≠ 11 → σ' 160 k = σ 160 k) → σ' 160 11 = nI (drF S).2 → GX σ' 0 (drF S).1 → P σ') : w_X7_driftOnce σ P := by
  have hgo : ∀ {τ : St} {v : Int32} {D : Cty}, GX τ 0 D → GX (su τ 160 11 v) 0 D := fun hg => hg.of (fun q b1 b2 => su_q (by omega))
  unfold w_X7_driftOnce
  refine s_xdraw (k := 4) hs h11 (by decide) (by decide) ?_
  unfold drF at h
  have hlt : dwN S.2 4 < 4 := Nat.mod_lt _ (by decide)
  refine ⟨fun c => ⟨fun c2 => ?_, fun c2 => ?_⟩, fun c => ?_⟩
  · have d1 : ¬ dwN S.2 4 < 2 := fun z => nI_nlt (a := 1) (b := dwN S.2 4) (by omega) (by decide) c
    have d2 : ¬ dwN S.2 4 = 2 := fun z => c2 (by rw [z]; rfl)
    rw [if_neg d1, if_neg d2] at h
    refine s_xdraw (k := 9) (nsN_lt _) su_s (by decide) (by decide) ?_
    refine s_xdraw (k := 9) (nsN_lt _) su_s (by decide) (by decide) ?_
    refine s_swap ⟨by decide, by decide⟩ hC (hgo (hgo (hgo hG))) (Nat.mod_lt _ (by decide)) (Nat.mod_lt _ (by decide)) (fun τ t1 t2 => h τ (fun q b1 b2 b3 => ?_) (fun k b => ?_) ?_ t2)
    · rw [t1 q (by omega) (by omega), su_q b2, su_q b2, su_q b2]
    · rw [t1 160 (by decide) (by decide), su_k b, su_k b, su_k b]
    · rw [t1 160 (by decide) (by decide), su_s]
  · have d2 : dwN S.2 4 = 2 := nI_inj (b := 2) (by omega) (by decide) c2
    rw [if_neg (by omega), if_pos d2] at h
    unfold w_X3_standAll
    have hg1 := hgo (v := nI (nsN S.2)) hG
    rw [hg1.2.1]
    refine h _ (fun q b1 b2 b3 => by rw [su_q (by omega), su_q b2]) (fun k b => by rw [su_q (by decide), su_k b]) (by rw [su_q (by decide), su_s]) ?_
    exact hg1.up _
  · have d1 : dwN S.2 4 < 2 := Nat.lt_of_not_le (fun z => c (nI_lt (a := 1) (b := dwN S.2 4) (by omega) (by omega)))
    rw [if_pos d1] at h
    refine s_xdraw (k := 5) (nsN_lt _) su_s (by decide) (by decide) ?_
    refine s_xdraw (k := 3) (nsN_lt _) su_s (by decide) (by decide) ?_
    refine s_xdraw (k := 40) (nsN_lt _) su_s (by decide) (by decide) ?_
    rw [nI_1]
    refine s_throwOne hC (hgo (hgo (hgo (hgo hG)))) (fun τ t1 t2 => h τ (fun q b1 b2 b3 => ?_) (fun k b => ?_) ?_ t2)
    · rw [t1 q b1 b3, su_q b2, su_q b2, su_q b2, su_q b2]
    · rw [t1 160 (by decide) (by omega), su_k b, su_k b, su_k b, su_k b]
    · rw [t1 160 (by decide) (by omega), su_s]
theorem GM.o48 {σ : St} {C : Cty} (hn : cn C ≤ 9) (h : GM σ 189 0 C) (v : Int32) : GM (su σ 189 48 v) 189 0 C := h.of hn (fun k _ _ => su_k (by omega))
theorem s_mdrift1 {p1 : Int32} {a : Nat} {K : Int32 → St → Prop} {P : Int32 → St → Prop} {σ : St} {S : Cty × Nat} (hC : COk S.1) (hc : ¬ cf S.1 = -1) (hs : S.2 < 2 ^ 31) (hM : GM σ 189 0 S.1) (hG : MG σ S.1) (h48 : σ 189 48 = nI S.2)
    (h : ∀ σ', (∀ q, q ≠ 185 → q ≠ 189 → (q < 195 ∨ 202 ≤ q) → σ' q = σ q) → (∀ k, k ≠ 26 → k ≠ 27 → k ≠ 28 → σ' 185 k = σ 185 k) → σ' 189 48 = nI (drF S).2 → GM σ' 189 0 (drF S).1 → K (nI a + 1) σ') :
    w_X8_draw (4 : Int32) σ (fun r9 σ8 => (((2 : Int32) ≤ r9 → ((¬ r9 = (2 : Int32) → (w_X8_draw 9 σ8 (fun r13 σ12 => (w_X8_draw 9 σ12 (fun r15 σ14 => ((r13 = r15 → w_X8_drift_b142 p1 K P (nI a) σ14) ∧ (¬ r13 = r15 → (w_X8_changes r13 r15 σ14 (fun σ17 => w_X8_drift_b142 p1 K P (nI a) σ17))))))))) ∧ (r9 = (2 : Int32) → w_X8_drift_b142 p1 K P (nI a) (su σ8 189 45 ((1 <<< ((σ8 185 9) &&& 31)) - 1))))) ∧ (¬ (2 : Int32) ≤ r9 → (w_X8_draw (5 : Int32) σ8 (fun r19 σ18 => (w_X8_draw (3 : Int32) σ18 (fun r21 σ20 => (w_X8_draw (40 : Int32) σ20 (fun r23 σ22 => (w_X8_throwsBall r19 r21 (1 + r23) σ22 (fun r25 σ24 => w_X8_drift_b142 p1 K P (nI a) σ24))))))))))) := by
  have hn := hC.1
  have hmo : ∀ {τ : St} {v : Int32}, MG τ S.1 → MG (su τ 189 48 v) S.1 := fun hg => hg.of (by rw [su_q (by decide)]) (by rw [su_q (by decide)]) (by rw [su_q (by decide)]) (su_q (by decide))
  refine s_mdraw (k := 4) hs h48 (by decide) (by decide) ?_
  unfold drF at h
  have hlt : dwN S.2 4 < 4 := Nat.mod_lt _ (by decide)
  refine ⟨fun c => ⟨fun c2 => ?_, fun c2 => ?_⟩, fun c => ?_⟩
  · have d1 : ¬ dwN S.2 4 < 2 := fun z => nI_ge (a := dwN S.2 4) (b := 2) z (by decide) c
    have d2 : ¬ dwN S.2 4 = 2 := fun z => c2 (by rw [z]; rfl)
    rw [if_neg d1, if_neg d2] at h
    refine s_mdraw (k := 9) (nsN_lt _) su_s (by decide) (by decide) ?_
    refine s_mdraw (k := 9) (nsN_lt _) su_s (by decide) (by decide) ?_
    have i1 : dwN (nsN S.2) 9 < 9 := Nat.mod_lt _ (by decide)
    have i2 : dwN (nsN (nsN S.2)) 9 < 9 := Nat.mod_lt _ (by decide)
    refine ⟨fun e => ?_, fun e => ?_⟩
    · have e' : dwN (nsN S.2) 9 = dwN (nsN (nsN S.2)) 9 := nI_inj (by omega) (by omega) e
      refine h _ (fun q b1 b2 b3 => by rw [su_q b2, su_q b2, su_q b2]) (fun k b1 b2 b3 => by rw [su_q (by decide), su_q (by decide), su_q (by decide)]) su_s ?_
      rw [e', swC_pp]
      exact (((hM.o48 hn _).o48 hn _).o48 hn _)
    · refine s_changes hC (((hM.o48 hn _).o48 hn _).o48 hn _) (hmo (hmo (hmo hG))) i1 i2 (fun τ t1 t2 t3 => h τ (fun q b1 b2 b3 => ?_) (fun k b1 b2 b3 => ?_) ?_ t3)
      · rw [t1 q b2, su_q b2, su_q b2, su_q b2]
      · rw [t1 185 (by decide), su_q (by decide), su_q (by decide), su_q (by decide)]
      · rw [t2 48 (by decide), su_s]
  · have d2 : dwN S.2 4 = 2 := nI_inj (b := 2) (by omega) (by decide) c2
    rw [if_neg (by omega), if_pos d2] at h
    have e9 : su σ 189 48 (nI (nsN S.2)) 185 9 = nI (cn S.1) := by rw [su_q (by decide)]; exact hG.1
    rw [e9]
    refine h _ (fun q b1 b2 b3 => by rw [su_q b2, su_q b2]) (fun k b1 b2 b3 => by rw [su_q (by decide), su_q (by decide)]) (by rw [su_k (by decide), su_s]) ?_
    exact (hM.o48 hn _).up hn _
  · have d1 : dwN S.2 4 < 2 := Nat.lt_of_not_le (fun z => c (nI_le (a := 2) (b := dwN S.2 4) z (by omega)))
    rw [if_pos d1] at h
    refine s_mdraw (k := 5) (nsN_lt _) su_s (by decide) (by decide) ?_
    refine s_mdraw (k := 3) (nsN_lt _) su_s (by decide) (by decide) ?_
    refine s_mdraw (k := 40) (nsN_lt _) su_s (by decide) (by decide) ?_
    have e1 : (1 : Int32) + nI (dwN (nsN (nsN (nsN S.2))) 40) = nI (dwN (nsN (nsN (nsN S.2))) 40 + 1) := by rw [Int32.add_comm, nI_1]
    rw [e1]
    refine s_mthrow hC hc ((((hM.o48 hn _).o48 hn _).o48 hn _).o48 hn _) (hmo (hmo (hmo (hmo hG)))) (fun τ t1 t2 t3 t4 => h τ (fun q b1 b2 b3 => ?_) (fun k b1 b2 b3 => ?_) ?_ t4)
    · rw [t1 q b1 b2 b3, su_q b2, su_q b2, su_q b2, su_q b2]
    · rw [t2 k b1 b2 b3, su_q (by decide), su_q (by decide), su_q (by decide), su_q (by decide)]
    · rw [t3, su_s]
theorem s_xdrift {a : Nat} (ha : a ≤ 30) {P : Int32 → St → Prop} : ∀ (m i : Nat) (σ : St) (S : Cty × Nat), i + m = a → COk S.1 → S.2 < 2 ^ 31 → GX σ 0 S.1 → σ 160 11 = nI S.2 →
    (∀ σ', (∀ q, 8 ≤ q → q ≠ 160 → (q < 171 ∨ 176 ≤ q) → σ' q = σ q) → (∀ k, k ≠ 11 → σ' 160 k = σ 160 k) → σ' 160 11 = nI (drN m S).2 → GX σ' 0 (drN m S).1 → P (cu (drN m S).1) σ') → w_X7_drift_b33 (nI a) P (m + 1) (nI i) σ := by
  intro m
  induction m with
  | zero =>
    intro i σ S hi hC hs hG h11 h
    have : i = a := by omega
    subst this
    unfold w_X7_drift_b33
    rw [hG.2.2.1]
    exact ⟨fun _ => h σ (fun _ _ _ _ => rfl) (fun _ _ => rfl) h11 hG, fun c => absurd (nI_le (Nat.le_refl _) (by omega)) c⟩
  | succ m ih =>
    intro i σ S hi hC hs hG h11 h
    unfold w_X7_drift_b33
    refine ⟨fun c => absurd c (nI_ge (by omega) (by omega)), fun _ => ?_⟩
    have hd := drF_ok hC hs
    have e : drN (m + 1) S = drN m (drF S) := itF_s drF m S
    rw [e] at h
    refine s_xdrift1 hC hs hG h11 (fun τ t1 t2 t3 t4 => ?_)
    generalize drF S = T at hd h t3 t4
    rw [nI_1]
    exact ih (i + 1) τ T (by omega) hd.1 hd.2.2 t4 t3 (fun σ' a1 a2 a3 a4 => h σ' (fun q b1 b2 b3 => by rw [a1 q b1 b2 b3, t1 q b1 b2 b3]) (fun k b => by rw [a2 k b, t2 k b]) a3 a4)
theorem s_mdrift {a : Nat} (ha : a ≤ 30) {P : Int32 → St → Prop} : ∀ (m i : Nat) (σ : St) (S : Cty × Nat), i + m = a → COk S.1 → ¬ cf S.1 = -1 → S.2 < 2 ^ 31 → GM σ 189 0 S.1 → MG σ S.1 → σ 189 48 = nI S.2 →
    (∀ σ', (∀ q, q ≠ 185 → q ≠ 189 → (q < 195 ∨ 202 ≤ q) → σ' q = σ q) → (∀ k, k ≠ 26 → k ≠ 27 → k ≠ 28 → σ' 185 k = σ 185 k) → σ' 189 48 = nI (drN m S).2 → GM σ' 189 0 (drN m S).1 → P (cu (drN m S).1) σ') → w_X8_drift_b34 (nI a) P (m + 1) (nI i) σ := by
  intro m
  induction m with
  | zero =>
    intro i σ S hi hC hc hs hM hG h48 h
    have : i = a := by omega
    subst this
    unfold w_X8_drift_b34
    rw [hM.z.2.1]
    exact ⟨fun _ => h σ (fun _ _ _ _ => rfl) (fun _ _ _ _ => rfl) h48 hM, fun c => absurd (nI_le (Nat.le_refl _) (by omega)) c⟩
  | succ m ih =>
    intro i σ S hi hC hc hs hM hG h48 h
    unfold w_X8_drift_b34
    refine ⟨fun c => absurd c (nI_ge (by omega) (by omega)), fun _ => ?_⟩
    have hd := drF_ok hC hs
    have e : drN (m + 1) S = drN m (drF S) := itF_s drF m S
    rw [e] at h
    refine s_mdrift1 hC hc hs hM hG h48 (fun τ t1 t2 t3 t4 => ?_)
    generalize drF S = T at hd h t3 t4
    rw [nI_1]
    have hG2 : MG τ T.1 := (hG.of (t2 7 (by decide) (by decide) (by decide)) (t2 8 (by decide) (by decide) (by decide)) (t2 9 (by decide) (by decide) (by decide)) (t1 188 (by decide) (by decide) (by omega))).cc hd.2.1
    exact ih (i + 1) τ T (by omega) hd.1 (by rw [hd.2.1.2.1]; exact hc) hd.2.2 t4 hG2 t3 (fun σ' a1 a2 a3 a4 => h σ' (fun q b1 b2 b3 => by rw [a1 q b1 b2 b3, t1 q b1 b2 b3]) (fun k b1 b2 b3 => by rw [a2 k b1 b2 b3, t2 k b1 b2 b3]) a3 a4)
theorem op_drift {σ : St} (h : Rel σ) (p : Int32) : Two (w_X7_drift p σ) (w_X8_drift p) := by
  have h0 := h.su0 0
  obtain ⟨C, L, I, h⟩ := h
  have hn := h.1.1
  have hG := h.2.1
  obtain ⟨n, hn2, en⟩ := nI_of h.2.2.2.2.2.2.2.2.2.2.1.2
  have en48 : σ 189 48 = nI n := h.2.2.2.2.2.2.2.2.2.2.1.1.symm.trans en
  unfold Two w_X7_drift
  have out : (p < 1 ∨ 30 < p) → w_X8_drift p σ (fun r' σ2 => (-1000000002 : Int32) = r' ∧ Rel σ2) := by
    intro c
    unfold w_X8_drift
    exact s_in (fun c1 c2 => absurd c (by rintro (z | z); exact c1 z; exact c2 z)) (fun _ => ⟨fun z => absurd rfl z, fun _ => ⟨rfl, h0⟩⟩)
  refine ⟨fun c => out (Or.inl c), fun c1 => ⟨fun c2 => ?_, fun c => out (Or.inr (Int32.not_le.mp c))⟩⟩
  have inw : ∀ {τ : St} {Q : Int32 → St → Prop}, Q 1 τ → w_X8_in p 1 30 τ Q := fun hq => s_in (fun _ _ => hq) (fun z => absurd z (by rintro (z | z); exact c1 z; exact absurd c2 (Int32.not_le.mpr z)))
  obtain ⟨a, ha, ea⟩ := nI_of2 (M := 30) (n := 30) (by decide) (fun z => c1 (Int32.lt_of_lt_of_le z (by decide))) c2
  refine s_county hG (fun c => ⟨fun _ => ?_, fun z => absurd z (by decide)⟩) (fun c => ⟨fun z => absurd rfl z, fun _ => ?_⟩)
  · refine s_remember h (fun τ t1 t2 t3 t4 => ⟨a + 1, ?_⟩)
    have hGτ : GX τ 0 C := hG.of (fun q b1 b2 => t1 q (by omega) (by omega) (by omega) (by omega))
    rw [ea]
    obtain ⟨k1, k2, k3⟩ := drN_ok a (S := (C, n)) h.1 hn2
    refine s_xdrift ha a 0 τ (C, n) (by omega) h.1 hn2 hGτ (by rw [t1 160 (by omega) (by decide) (by decide) (by decide)]; exact en) (fun τ2 o1 o2 o3 o4 => ?_)
    show w_X8_drift (nI a) τ2 _
    rw [← ea]
    unfold w_X8_drift
    refine inw ⟨fun _ => ?_, fun z => absurd z (by decide)⟩
    have hτ : ∀ q, 182 ≤ q → τ2 q = σ q := fun q b => by rw [o1 q (by omega) (by omega) (by omega), t1 q (by omega) (by omega) (by omega) (by omega)]
    have e7 : su τ2 185 0 0 185 7 = 1 := by rw [su_k (by decide), hτ 185 (by omega)]; exact (h.2.2.2.1.is1 c).1
    rw [e7]
    refine ⟨fun _ => ?_, fun z => absurd z (by decide)⟩
    refine s_notesR h hτ (fun ρ r1 r2 r3 r4 r5 => ⟨a + 1, ?_⟩)
    rw [ea]
    refine s_mdrift ha a 0 ρ (C, n) (by omega) h.1 c hn2 r3 r4 (by rw [r1 189 (by decide) (by decide), hτ 189 (by decide)]; exact en48) (fun ρ2 q1 q2 q3 q4 => ?_)
    generalize drN a (C, n) = T at k1 k2 k3 o3 o4 q3 q4 ⊢
    refine ⟨rfl, T.1, C :: L.take 15, I, ?_⟩
    have hr : ∀ q, q ≠ 185 → q ≠ 189 → q ≠ 192 → (q < 195 ∨ 202 ≤ q) → ρ2 q = τ2 q := fun q b1 b2 b3 b4 => by rw [q1 q b1 b2 b4, r1 q b3 b1]
    have hs : ∀ q, (8 ≤ q ∧ q < 32 ∨ 161 ≤ q) → q ≠ 166 → q ≠ 185 → q ≠ 189 → q ≠ 192 → q ≠ 176 → q ≠ 178 → (q < 171 ∨ 176 ≤ q) → (q < 195 ∨ 202 ≤ q) → ρ2 q = σ q := fun q b1 b2 b3 b4 b5 b6 b7 b8 b9 => by rw [hr q b3 b4 b5 b9, o1 q (by omega) (by omega) b8, t1 q (by omega) b2 b6 b7]
    refine h.done k1 k2 (o4.of (fun q b1 b2 => hr q (by omega) (by omega) (by omega) (by omega))) q4 h.past ?_ ?_ ?_ (fun q hq => hs q (by omega) (by omega) (by omega) (by omega) (by omega) (by omega) (by omega) (by omega) (by omega)) ?_ (fun k b1 b2 b3 b4 b5 => by rw [q2 k b3 b4 b5, r2 k b1 b2]) ?_ ?_
    · exact t4.of (by rw [hr 166 (by decide) (by decide) (by decide) (by omega), o1 166 (by decide) (by decide) (by omega)]) (by rw [hr 166 (by decide) (by decide) (by decide) (by omega), o1 166 (by decide) (by decide) (by omega)]) (fun q b1 b2 => by rw [hr q (by omega) (by omega) (by omega) (by omega), o1 q (by omega) (by omega) (by omega)])
    · exact r5.of (fun D hD => (h.past D hD).1) (q2 18 (by decide) (by decide) (by decide)) (q1 192 (by decide) (by decide) (by omega))
    · have e11 : ρ2 160 11 = nI T.2 := by rw [hr 160 (by decide) (by decide) (by decide) (by omega)]; exact o3
      refine ⟨e11.trans q3.symm, by rw [e11]; exact nI_pos k3⟩
    · rw [hr 160 (by decide) (by decide) (by decide) (by omega), o2 12 (by decide), t1 160 (by omega) (by decide) (by decide) (by decide)]
    · rw [hr 176 (by decide) (by decide) (by decide) (by omega), o1 176 (by decide) (by decide) (by omega)]; exact t2
    · rw [hr 178 (by decide) (by decide) (by decide) (by omega), o1 178 (by decide) (by decide) (by omega)]; exact t3
  · show w_X8_drift p σ _
    unfold w_X8_drift
    refine inw ⟨fun _ => ?_, fun z => absurd z (by decide)⟩
    have e7 : su σ 185 0 0 185 7 = 0 := by rw [su_k (by decide)]; exact h.2.2.2.1.is0 c
    rw [e7]
    exact ⟨fun z => absurd rfl z, fun _ => ⟨rfl, h0⟩⟩
