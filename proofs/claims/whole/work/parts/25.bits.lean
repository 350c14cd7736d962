/-! ===== bits (the family 'bt' of BITS.to-paste), and balls that differ in who was taken before ===== -/
def bt (x : Int32) (i : Nat) : Bool := x.toBitVec.getLsbD i
theorem b_ext {x y : Int32} (h : ∀ i, i < 32 → bt x i = bt y i) : x = y := Int32.toBitVec_inj.mp (BitVec.eq_of_getLsbD_eq (fun i hi => h i hi))
theorem b_or (x y : Int32) (i : Nat) : bt (x ||| y) i = (bt x i || bt y i) := by unfold bt; rw [Int32.toBitVec_or, BitVec.getLsbD_or]
theorem b_and (x y : Int32) (i : Nat) : bt (x &&& y) i = (bt x i && bt y i) := by unfold bt; rw [Int32.toBitVec_and, BitVec.getLsbD_and]
theorem b_xor (x y : Int32) (i : Nat) : bt (x ^^^ y) i = (bt x i ^^ bt y i) := by unfold bt; rw [Int32.toBitVec_xor, BitVec.getLsbD_xor]
theorem b_big {x : Int32} {i : Nat} (h : 32 ≤ i) : bt x i = false := BitVec.getLsbD_of_ge _ _ h
theorem b_m1 : ∀ i, i < 32 → bt (-1) i = true := by decide +kernel
theorem b_0 (i : Nat) : bt 0 i = false := BitVec.getLsbD_zero
theorem s_l : ∀ n, n < 32 → ((nI n &&& 31).toBitVec.smod 32).toNat = n := by decide +kernel
theorem s_u : ∀ n, n < 32 → (((nI n).toUInt32 &&& Int32.toUInt32 31).toBitVec % 32).toNat = n := by decide +kernel
theorem b_shl (n : Nat) (hn : n < 32) (x : Int32) {i : Nat} (hi : i < 32) : bt (x <<< (nI n &&& 31)) i = (decide (n ≤ i) && bt x (i - n)) := by
  unfold bt
  rw [Int32.toBitVec_shiftLeft]
  show (x.toBitVec <<< ((nI n &&& 31).toBitVec.smod 32).toNat).getLsbD i = _
  rw [s_l n hn, BitVec.getLsbD_shiftLeft]
  rcases Nat.lt_or_ge i n with h | h
  · simp [h, Nat.not_le.mpr h]
  · simp [hi, h, Nat.not_lt.mpr h]
theorem b_ushr (n : Nat) (hn : n < 32) (x : Int32) (i : Nat) : bt ((x.toUInt32 >>> ((nI n).toUInt32 &&& Int32.toUInt32 31)).toInt32) i = bt x (n + i) := by
  show (x.toUInt32 >>> ((nI n).toUInt32 &&& Int32.toUInt32 31)).toBitVec.getLsbD i = x.toUInt32.toBitVec.getLsbD (n + i)
  rw [UInt32.toBitVec_shiftRight]
  show (x.toUInt32.toBitVec >>> (((nI n).toUInt32 &&& Int32.toUInt32 31).toBitVec % 32).toNat).getLsbD i = _
  rw [s_u n hn, BitVec.getLsbD_ushiftRight]
theorem b_sshr (n : Nat) (hn : n < 32) (x : Int32) {i : Nat} (hi : i < 32) : bt (x >>> (nI n &&& 31)) i = if n + i < 32 then bt x (n + i) else bt x 31 := by
  unfold bt
  rw [Int32.toBitVec_shiftRight]
  show (x.toBitVec.sshiftRight ((nI n &&& 31).toBitVec.smod 32).toNat).getLsbD i = _
  rw [s_l n hn, BitVec.getLsbD_sshiftRight, BitVec.msb_eq_getLsbD_last]
  simp [hi]
theorem bt_1 (i : Nat) : bt 1 i = decide (i = 0) := by
  rcases Nat.lt_or_ge i 32 with h | h
  · exact (by decide +kernel : ∀ i, i < 32 → bt 1 i = decide (i = 0)) i h
  · rw [b_big h, decide_eq_false (by omega)]
theorem bt_and1 (y : Int32) : y &&& 1 = 1 ↔ bt y 0 = true := by
  constructor
  · intro h
    have h1 : bt (y &&& 1) 0 = true := by rw [h]; decide
    rw [b_and, bt_1] at h1
    simpa using h1
  · intro h
    apply b_ext
    intro i hi
    rw [b_and, bt_1]
    by_cases h0 : i = 0
    · subst h0; simp [h]
    · simp [h0]
theorem bt_and0 (y : Int32) : y &&& 1 = 0 ↔ bt y 0 = false := by
  constructor
  · intro h
    have h1 : bt (y &&& 1) 0 = false := by rw [h]; decide
    rw [b_and, bt_1] at h1
    simpa using h1
  · intro h
    apply b_ext
    intro i hi
    rw [b_and, bt_1, b_0]
    by_cases h0 : i = 0
    · subst h0; simp [h]
    · simp [h0]
theorem bt_shr (x : Int32) {k : Nat} (hk : k < 32) : bt (x >>> (nI k &&& 31)) 0 = bt x k := by
  rw [b_sshr k hk x (by decide), if_pos (by omega)]; rfl
theorem has_bt {x : Int32} {k : Nat} (hk : k < 32) : (x >>> (nI k &&& 31)) &&& 1 = 1 ↔ bt x k = true := by rw [bt_and1, bt_shr x hk]
theorem bt_val (x : Int32) {k : Nat} (hk : k < 32) : (x >>> (nI k &&& 31)) &&& 1 = if bt x k then 1 else 0 := by
  cases h : bt x k with
  | true => rw [(has_bt hk).mpr h]; rfl
  | false => rw [(bt_and0 _).mpr (by rw [bt_shr x hk]; exact h)]; rfl
theorem bt_shl1 {s k : Nat} (hs : s < 32) (hk : k < 32) : bt ((1 : Int32) <<< (nI s &&& 31)) k = decide (k = s) := by
  rw [b_shl s hs 1 hk, bt_1]
  by_cases h : k = s
  · subst h; simp
  · by_cases h2 : s ≤ k
    · have : ¬ (k - s = 0) := by omega
      simp [h, this]
    · simp [h, h2]
theorem bt_not (x : Int32) {k : Nat} (hk : k < 32) : bt (x ^^^ -1) k = !bt x k := by rw [b_xor, b_m1 k hk]; cases bt x k <;> rfl
theorem bt_clr (x : Int32) {s : Nat} (hs : s < 32) (k : Nat) : bt (x &&& (((1 : Int32) <<< (nI s &&& 31)) ^^^ -1)) k = (bt x k && !decide (k = s)) := by
  rcases Nat.lt_or_ge k 32 with h | h
  · rw [b_and, bt_not _ h, bt_shl1 hs h]
  · rw [b_big h, b_big h]; rfl
theorem bt_set (x : Int32) {s : Nat} (hs : s < 32) {k : Nat} (hk : k < 32) : bt (x ||| ((1 : Int32) <<< (nI s &&& 31))) k = (bt x k || decide (k = s)) := by
  rw [b_or, bt_shl1 hs hk]
theorem whoF_bt {on : Nat → Int32} {up row col : Int32} {s : Nat} (hs : s < 9) (h : whoF on up row col = nI s) : bt up s = true := by
  unfold whoF at h
  have hn : ¬ nI s = -1 := fun q => by
    have := nI_pos (n := s) (by omega)
    rw [q] at this; exact this (by decide)
  split at h
  · exact absurd h.symm hn
  · split at h
    · exact absurd h.symm hn
    · rename_i h1
      have h2 : (up >>> (on (plT row col).toNatClampNeg &&& 31)) &&& 1 = 1 := Decidable.not_not.mp fun q => h1 (Or.inr (Or.inr q))
      rw [h] at h2
      exact (has_bt (by omega)).mp h2
/-- two pictures of one ball -/
def BR (up0 : Int32) (t1 t2 : Nat → Int32) (b1 b2 : BS) : Prop := b1.1 = b2.1 ∧ b1.2.1 = b2.2.1 ∧ (∀ k, k < 9 → b1.2.2.1 k = b2.2.2.1 k) ∧ ∀ k, (b1.2.2.2 k = t1 k ∧ b2.2.2.2 k = t2 k ∧ bt b1.1 k = bt up0 k) ∨ (b1.2.2.2 k = b2.2.2.2 k ∧ bt b1.1 k = false ∧ bt up0 k = true ∧ k < 9)
def EV (on1 bear1 on2 bear2 : Nat → Int32) : Prop := (∀ p, p < 9 → on1 p = on2 p) ∧ ∀ s, s < 9 → (∃ p, p < 9 ∧ on1 p = nI s) → bear1 s = bear2 s
theorem whoF_ev {on1 bear1 on2 bear2 : Nat → Int32} (h : EV on1 bear1 on2 bear2) (up row col : Int32) : whoF on1 up row col = whoF on2 up row col := by
  unfold whoF
  rcases plT_rng row col with e | ⟨p, hp, e, -⟩
  · rw [e]; rw [if_pos (by decide), if_pos (by decide)]
  · rw [e, cl_nI (by omega), h.1 p hp]
theorem BR_rk {up0 : Int32} {t1 t2 : Nat → Int32} {b1 b2 : BS} (h : BR up0 t1 t2 b1 b2) (s : Int32) (hs : vp_in s 9) : BR up0 t1 t2 (rkF s b1) (rkF s b2) := by
  obtain ⟨h1, h2, h3, h4⟩ := h
  refine ⟨h1, by unfold rkF; dsimp only; rw [h2], fun k hk => ?_, h4⟩
  unfold rkF upd
  dsimp only
  rw [h3 _ (vp_lt hs), h3 k hk]
theorem BR_dn {up0 : Int32} {t1 t2 : Nat → Int32} {b1 b2 : BS} (h : BR up0 t1 t2 b1 b2) {s : Nat} (hs : s < 9) (hb : bt b1.1 s = true) (y : Int32) : BR up0 t1 t2 (dnF (nI s) y b1) (dnF (nI s) y b2) := by
  obtain ⟨h1, h2, h3, h4⟩ := h
  refine ⟨by unfold dnF; dsimp only; rw [h1], h2, h3, fun k => ?_⟩
  unfold dnF upd
  dsimp only
  rw [cl_nI (by omega), bt_clr _ (by omega)]
  by_cases hk : k = s
  · subst hk
    right
    refine ⟨by simp, by simp, ?_, hs⟩
    rcases h4 k with ⟨-, -, e⟩ | ⟨-, -, e, -⟩
    · rw [← e]; exact hb
    · exact e
  · simp only [hk, if_false, decide_false, Bool.not_false, Bool.and_true]
    exact h4 k
theorem BR_st {on1 bear1 on2 bear2 : Nat → Int32} (hv : EV on1 bear1 on2 bear2) {up0 : Int32} {t1 t2 : Nat → Int32} {F1 F2 : Int32 → Int32 → Int32 → Int32 → Int32 → BS → BS} (hF : ∀ (s : Nat) (y row col n : Int32) (b1 b2 : BS), s < 9 → bt b1.1 s = true → BR up0 t1 t2 b1 b2 → BR up0 t1 t2 (F1 (nI s) y row col n b1) (F2 (nI s) y row col n b2)) (y row col n : Int32) {b1 b2 : BS} (h : BR up0 t1 t2 b1 b2) : BR up0 t1 t2 (stF F1 on1 bear1 y row col n b1) (stF F2 on2 bear2 y row col n b2) := by
  unfold stF
  rw [← h.1, ← whoF_ev hv]
  rcases whoF_rng on1 b1.1 row col with e | ⟨s, hs, e, p, hp, -, -, ep⟩
  · rw [e, if_pos rfl, if_pos rfl]; exact h
  · have hb := whoF_bt hs e
    have hn : ¬ nI s = -1 := fun q => by
      have := nI_pos (n := s) (by omega)
      rw [q] at this; exact this (by decide)
    rw [e, if_neg hn, if_neg hn, cl_nI (by omega), ← hv.2 s hs ⟨p, hp, ep⟩]
    split
    · exact hF s y row col n b1 b2 hs hb h
    · exact BR_rk h _ (in_nI hs)
theorem BR_tp {on1 bear1 on2 bear2 : Nat → Int32} (hv : EV on1 bear1 on2 bear2) {up0 : Int32} {t1 t2 : Nat → Int32} : ∀ (d s : Nat) (y row col n : Int32) (b1 b2 : BS), s < 9 → bt b1.1 s = true → BR up0 t1 t2 b1 b2 → BR up0 t1 t2 (tpF on1 bear1 d (nI s) y row col n b1) (tpF on2 bear2 d (nI s) y row col n b2) := by
  intro d
  induction d with
  | zero => intro s y row col n b1 b2 hs hb h; exact h
  | succ d ih =>
    intro s y row col n b1 b2 hs hb h
    have h0 := BR_dn h hs hb y
    unfold tpF
    split
    · exact h0
    · split
      · exact h0
      · exact BR_st hv ih _ _ _ _ (BR_st hv ih _ _ _ _ h0)
theorem BR_mt {on1 bear1 on2 bear2 : Nat → Int32} (hv : EV on1 bear1 on2 bear2) {up0 : Int32} {t1 t2 : Nat → Int32} (row col n : Int32) {b1 b2 : BS} (h : BR up0 t1 t2 b1 b2) : (mtF on1 bear1 row col n b1).1 = (mtF on2 bear2 row col n b2).1 ∧ BR up0 t1 t2 (mtF on1 bear1 row col n b1).2 (mtF on2 bear2 row col n b2).2 := by
  unfold mtF
  rw [← h.1, ← whoF_ev hv]
  rcases whoF_rng on1 b1.1 row col with e | ⟨s, hs, e, p, hp, -, -, ep⟩
  · rw [e, if_pos rfl, if_pos rfl]; exact ⟨rfl, h⟩
  · have hb := whoF_bt hs e
    have hn : ¬ nI s = -1 := fun q => by
      have := nI_pos (n := s) (by omega)
      rw [q] at this; exact this (by decide)
    rw [e, if_neg hn, if_neg hn, cl_nI (by omega), ← hv.2 s hs ⟨p, hp, ep⟩]
    split
    · exact ⟨rfl, BR_tp hv 6 s _ _ _ _ b1 b2 hs hb h⟩
    · exact ⟨rfl, BR_rk h _ (in_nI hs)⟩
theorem BR_rw {on1 bear1 on2 bear2 : Nat → Int32} (hv : EV on1 bear1 on2 bear2) {up0 : Int32} {t1 t2 : Nat → Int32} (drag line slant : Int32) : ∀ (m r : Nat) (n : Int32) (b1 b2 : BS), BR up0 t1 t2 b1 b2 → (rwF on1 bear1 drag line slant m r n b1).2 = (rwF on2 bear2 drag line slant m r n b2).2 ∧ BR up0 t1 t2 (rwF on1 bear1 drag line slant m r n b1).1 (rwF on2 bear2 drag line slant m r n b2).1 := by
  intro m
  induction m with
  | zero => intro r n b1 b2 h; exact ⟨rfl, h⟩
  | succ m ih =>
    intro r n b1 b2 h
    obtain ⟨e, h2⟩ := BR_mt hv (nI r) (line + nI r * (slant - 1)) n h
    unfold rwF
    rw [← e]
    split
    · exact ih _ _ _ _ h2
    · exact ⟨rfl, h2⟩
theorem BR_bl {on1 bear1 on2 bear2 : Nat → Int32} (hv : EV on1 bear1 on2 bear2) (drag line slant pace up : Int32) {r1 r2 t1 t2 : Nat → Int32} (hr : ∀ k, k < 9 → r1 k = r2 k) : (blF on1 bear1 drag line slant pace up r1 t1).2 = (blF on2 bear2 drag line slant pace up r2 t2).2 ∧ BR up t1 t2 (blF on1 bear1 drag line slant pace up r1 t1).1 (blF on2 bear2 drag line slant pace up r2 t2).1 := by
  unfold blF
  exact BR_rw hv drag line slant 5 0 pace _ _ ⟨rfl, rfl, hr, fun k => Or.inl ⟨rfl, rfl, rfl⟩⟩
/-- the rows of rocked ones don't matter for who stands -/
def BU (b1 b2 : BS) : Prop := b1.1 = b2.1 ∧ b1.2.1 = b2.2.1
theorem BU_bl {on1 bear1 on2 bear2 : Nat → Int32} (hv : EV on1 bear1 on2 bear2) (drag line slant pace up : Int32) {r1 r2 t1 t2 : Nat → Int32} : (blF on1 bear1 drag line slant pace up r1 t1).2 = (blF on2 bear2 drag line slant pace up r2 t2).2 ∧ BU (blF on1 bear1 drag line slant pace up r1 t1).1 (blF on2 bear2 drag line slant pace up r2 t2).1 := by
  have st : ∀ {F1 F2 : Int32 → Int32 → Int32 → Int32 → Int32 → BS → BS} (hF : ∀ (s y row col n : Int32) (b1 b2 : BS), BU b1 b2 → BU (F1 s y row col n b1) (F2 s y row col n b2)) (y row col n : Int32) {b1 b2 : BS} (h : BU b1 b2), BU (stF F1 on1 bear1 y row col n b1) (stF F2 on2 bear2 y row col n b2) := by
    intro F1 F2 hF y row col n b1 b2 h
    unfold stF
    rw [← h.1, ← whoF_ev hv]
    rcases whoF_rng on1 b1.1 row col with e | ⟨s, hs, e, p, hp, -, -, ep⟩
    · rw [e, if_pos rfl, if_pos rfl]; exact h
    · have hn : ¬ nI s = -1 := fun q => by
        have := nI_pos (n := s) (by omega)
        rw [q] at this; exact this (by decide)
      rw [e, if_neg hn, if_neg hn, cl_nI (by omega), ← hv.2 s hs ⟨p, hp, ep⟩]
      split
      · exact hF _ y row col n b1 b2 h
      · exact ⟨h.1, by unfold rkF; dsimp only; rw [h.2]⟩
  have tp : ∀ (d : Nat) (s y row col n : Int32) (b1 b2 : BS), BU b1 b2 → BU (tpF on1 bear1 d s y row col n b1) (tpF on2 bear2 d s y row col n b2) := by
    intro d
    induction d with
    | zero => intro s y row col n b1 b2 h; exact h
    | succ d ih =>
      intro s y row col n b1 b2 h
      have h0 : BU (dnF s y b1) (dnF s y b2) := ⟨by unfold dnF; dsimp only; rw [h.1], h.2⟩
      unfold tpF
      split
      · exact h0
      · split
        · exact h0
        · exact st ih _ _ _ _ (st ih _ _ _ _ h0)
  have rw_ : ∀ (m r : Nat) (n : Int32) (b1 b2 : BS), BU b1 b2 → (rwF on1 bear1 drag line slant m r n b1).2 = (rwF on2 bear2 drag line slant m r n b2).2 ∧ BU (rwF on1 bear1 drag line slant m r n b1).1 (rwF on2 bear2 drag line slant m r n b2).1 := by
    intro m
    induction m with
    | zero => intro r n b1 b2 h; exact ⟨rfl, h⟩
    | succ m ih =>
      intro r n b1 b2 h
      have hm : (mtF on1 bear1 (nI r) (line + nI r * (slant - 1)) n b1).1 = (mtF on2 bear2 (nI r) (line + nI r * (slant - 1)) n b2).1 ∧ BU (mtF on1 bear1 (nI r) (line + nI r * (slant - 1)) n b1).2 (mtF on2 bear2 (nI r) (line + nI r * (slant - 1)) n b2).2 := by
        unfold mtF
        rw [← h.1, ← whoF_ev hv]
        rcases whoF_rng on1 b1.1 (nI r) (line + nI r * (slant - 1)) with e | ⟨s, hs, e, p, hp, -, -, ep⟩
        · rw [e, if_pos rfl, if_pos rfl]; exact ⟨rfl, h⟩
        · have hn : ¬ nI s = -1 := fun q => by
            have := nI_pos (n := s) (by omega)
            rw [q] at this; exact this (by decide)
          rw [e, if_neg hn, if_neg hn, cl_nI (by omega), ← hv.2 s hs ⟨p, hp, ep⟩]
          split
          · exact ⟨rfl, tp 6 _ _ _ _ _ _ _ h⟩
          · exact ⟨rfl, h.1, by unfold rkF; dsimp only; rw [h.2]⟩
      obtain ⟨e, h2⟩ := hm
      unfold rwF
      rw [← e]
      split
      · exact ih _ _ _ _ h2
      · exact ⟨rfl, h2⟩
  unfold blF
  exact rw_ 5 0 pace _ _ ⟨rfl, rfl⟩
