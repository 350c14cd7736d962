/-! ===== those who can talk: pairs of plates, pairs of skittles ===== -/
def smF (f : Nat → Nat) : Nat → Nat → Nat
  | 0, _ => 0
  | m + 1, k => f k + smF f m (k + 1)
theorem smF_c {f g : Nat → Nat} : ∀ m k, (∀ i, k ≤ i → i < k + m → f i = g i) → smF f m k = smF g m k := by
  intro m
  induction m with
  | zero => intro k _; rfl
  | succ m ih =>
    intro k h
    unfold smF
    rw [h k (by omega) (by omega), ih (k + 1) (fun i h1 h2 => h i (by omega) (by omega))]
theorem smF_add (f g : Nat → Nat) : ∀ m k, smF (fun i => f i + g i) m k = smF f m k + smF g m k := by
  intro m
  induction m with
  | zero => intro k; rfl
  | succ m ih =>
    intro k
    unfold smF
    rw [ih (k + 1)]
    omega
theorem smF_0 : ∀ m k, smF (fun _ => 0) m k = 0 := by
  intro m
  induction m with
  | zero => intro k; rfl
  | succ m ih => intro k; unfold smF; rw [ih (k + 1)]
theorem smF_s (f : Nat → Nat) (b : Nat) : ∀ a k, smF f (a + b) k = smF f a k + smF f b (k + a) := by
  intro a
  induction a with
  | zero => intro k; rw [Nat.zero_add]; show _ = 0 + _; rw [Nat.zero_add]; rfl
  | succ a ih =>
    intro k
    rw [show a + 1 + b = (a + b) + 1 by omega]
    have e1 : smF f (a + b + 1) k = f k + smF f (a + b) (k + 1) := rfl
    have e2 : smF f (a + 1) k = f k + smF f a (k + 1) := rfl
    rw [e1, e2, ih (k + 1), show k + 1 + a = k + (a + 1) by omega]
    omega
theorem smF_l (f : Nat → Nat) (n : Nat) : smF f (n + 1) 0 = smF f n 0 + f n := by
  rw [smF_s f 1 n 0]
  show _ + (f (0 + n) + 0) = _
  rw [Nat.zero_add, Nat.add_zero]
theorem smF_x (t : Nat → Nat → Nat) (b l : Nat) : ∀ a k, smF (fun i => smF (t i) b l) a k = smF (fun j => smF (fun i => t i j) a k) b l := by
  intro a
  induction a with
  | zero => intro k; show 0 = smF (fun _ => 0) b l; rw [smF_0]
  | succ a ih =>
    intro k
    show smF (t k) b l + smF (fun i => smF (t i) b l) a (k + 1) = smF (fun j => t k j + smF (fun i => t i j) a (k + 1)) b l
    rw [ih (k + 1), smF_add]
theorem smF_u {g h : Nat → Nat} {p v : Nat} (hp : g p = 0) (hv : h p = v) (N : Nat) (ho : ∀ i, i < N → i ≠ p → h i = g i) : ∀ m k, k + m ≤ N → smF h m k = smF g m k + (if k ≤ p ∧ p < k + m then v else 0) := by
  intro m
  induction m with
  | zero => intro k _; rw [if_neg (by omega)]; rfl
  | succ m ih =>
    intro k hkN
    unfold smF
    rw [ih (k + 1) (by omega)]
    by_cases e : k = p
    · subst e
      rw [hp, hv, if_neg (by omega), if_pos (by omega)]
      omega
    · rw [ho k (by omega) e]
      by_cases c : k + 1 ≤ p ∧ p < k + 1 + m
      · rw [if_pos c, if_pos (by omega)]; omega
      · rw [if_neg c, if_neg (by omega)]; omega
def triF (t : Nat → Nat → Nat) (n : Nat) : Nat := smF (fun i => smF (t i) (n - (i + 1)) (i + 1)) n 0
theorem tri_row (t : Nat → Nat) {i n : Nat} (h : i < n) : smF t (n - (i + 1)) (i + 1) = smF (fun j => if i < j then t j else 0) n 0 := by
  have e : n = (i + 1) + (n - (i + 1)) := by omega
  conv => rhs; rw [e]
  rw [smF_s, smF_c (g := fun _ => 0) (i + 1) 0 (fun j _ h2 => if_neg (by omega)), smF_0, Nat.zero_add, Nat.zero_add]
  exact (smF_c _ _ (fun j h1 _ => if_pos (by omega))).symm
theorem tri_2 (t : Nat → Nat → Nat) (hs : ∀ i j, t i j = t j i) (hd : ∀ i, t i i = 0) (n : Nat) : 2 * triF t n = smF (fun i => smF (t i) n 0) n 0 := by
  have e1 : triF t n = smF (fun i => smF (fun j => if i < j then t i j else 0) n 0) n 0 := by
    unfold triF
    exact smF_c _ _ (fun i _ h2 => tri_row (t i) (by omega))
  have e2 : smF (fun i => smF (fun j => if j < i then t i j else 0) n 0) n 0 = triF t n := by
    rw [smF_x, e1]
    refine smF_c _ _ (fun i _ _ => smF_c _ _ (fun j _ _ => ?_))
    rw [hs j i]
  have e3 : smF (fun i => smF (t i) n 0) n 0 = smF (fun i => smF (fun j => if i < j then t i j else 0) n 0 + smF (fun j => if j < i then t i j else 0) n 0) n 0 := by
    refine smF_c _ _ (fun i _ _ => ?_)
    rw [← smF_add]
    refine smF_c _ _ (fun j _ _ => ?_)
    rcases Nat.lt_trichotomy i j with q | q | q
    · rw [if_pos q, if_neg (by omega)]; omega
    · subst q; rw [if_neg (by omega), hd]
    · rw [if_neg (by omega), if_pos q]; omega
  rw [e3, smF_add, e2, ← e1]
  omega
def lyB (C : Cty) (k : Nat) : Bool := !bt (cu C) k
def laB (C : Cty) (n a : Nat) : Bool := if onF (cd C 4) n a = -1 then false else lyB C (onF (cd C 4) n a).toNatClampNeg
def plN (C : Cty) (k : Nat) : Nat := (cd C 4 k).toNatClampNeg
theorem plN_e {C : Cty} (hC : COk C) {k : Nat} (hk : k < cn C) : plN C k < 9 ∧ cd C 4 k = nI (plN C k) := by
  obtain ⟨a, ha, ea⟩ := (hC.2.1 k hk).2.2.2.1
  unfold plN
  rw [ea, cl_nI (by omega)]
  exact ⟨ha, rfl⟩
theorem onF_no {C : Cty} (hC : COk C) {j : Nat} (hj : j < cn C) : ∀ n, n ≤ j → onF (cd C 4) n (plN C j) = -1 := by
  intro n
  induction n with
  | zero => intro _; rfl
  | succ n ih =>
    intro h
    unfold onF
    have : ¬ cd C 4 n = nI (plN C j) := fun e => by
      have := hC.2.2.1 n j (by omega) hj (e.trans (plN_e hC hj).2.symm)
      omega
    rw [if_neg this]
    exact ih (by omega)
theorem re_ix {C : Cty} (hC : COk C) (f : Nat → Nat) : ∀ n, n ≤ cn C → smF (fun a => if laB C n a then f a else 0) 9 0 = smF (fun k => if lyB C k then f (plN C k) else 0) n 0 := by
  intro n
  have hn9 := hC.1
  induction n with
  | zero =>
    intro _
    show smF (fun a => if laB C 0 a then f a else 0) 9 0 = 0
    rw [smF_c (g := fun _ => 0) _ _ (fun a _ _ => ?_), smF_0]
    unfold laB onF
    rw [if_pos rfl]
    rfl
  | succ n ih =>
    intro h
    obtain ⟨p1, p2⟩ := plN_e hC (show n < cn C by omega)
    have lp : laB C (n + 1) (plN C n) = lyB C n := by
      unfold laB
      have e : onF (cd C 4) (n + 1) (plN C n) = nI n := by unfold onF; rw [if_pos p2]
      rw [e, if_neg (nI_m1 (by omega)), cl_nI (by omega)]
    have l0 : laB C n (plN C n) = false := by
      unfold laB
      rw [onF_no hC (by omega) n (Nat.le_refl _), if_pos rfl]
    rw [smF_l (fun k => if lyB C k then f (plN C k) else 0) n, ← ih (by omega), smF_u (g := fun a => if laB C n a then f a else 0) (p := plN C n) (v := if lyB C n then f (plN C n) else 0) (by rw [l0]; rfl) (by rw [lp]) 9 (fun i hi9 hi => ?_) 9 0 (by omega), if_pos (by omega)]
    have e : laB C (n + 1) i = laB C n i := by
      unfold laB
      have : onF (cd C 4) (n + 1) i = onF (cd C 4) n i := by
        conv => lhs; unfold onF
        rw [p2, if_neg (fun z => hi (nI_inj (by omega) (by omega) z.symm))]
      rw [this]
    rw [e]
/-! next to each other -/
def sbB (a b : Nat) : Bool := decide ((tROW a - tROW b) * (tROW a - tROW b) = 1 ∧ (tCOL a - tCOL b) * (tCOL a - tCOL b) = 1)
theorem sb_sym : ∀ a b : Fin 9, sbB a.val b.val = sbB b.val a.val := by decide +kernel
theorem sb_self : ∀ a : Fin 9, sbB a.val a.val = false := by decide +kernel
theorem sb_x1 : ∀ a b : Fin 9, (if 0 ≤ ((tROW a.val) - (tROW b.val)) then ((tROW a.val) - (tROW b.val)) else 0 - ((tROW a.val) - (tROW b.val))) = 1 ↔ (tROW a.val - tROW b.val) * (tROW a.val - tROW b.val) = 1 := by decide +kernel
theorem sb_x2 : ∀ a b : Fin 9, (if 0 ≤ ((tCOL a.val) - (tCOL b.val)) then ((tCOL a.val) - (tCOL b.val)) else 0 - ((tCOL a.val) - (tCOL b.val))) = 1 ↔ (tCOL a.val - tCOL b.val) * (tCOL a.val - tCOL b.val) = 1 := by decide +kernel
theorem s_side {σ : St} {a b : Nat} (ha : a < 9) (hb : b < 9) {P : Int32 → St → Prop} (h : P (if sbB a b then 1 else 0) σ) : w_X3_areSideBySide (nI a) (nI b) σ P := by
  unfold w_X3_areSideBySide
  rw [cl_nI (by omega), cl_nI (by omega)]
  unfold sbB at h
  refine ⟨in_nI ha, in_nI hb, fun c => ?_, fun c => ⟨in_nI ha, in_nI hb, fun c2 => ?_, fun c2 => ?_⟩⟩
  · rw [decide_eq_false (fun z => c ((sb_x1 ⟨a, ha⟩ ⟨b, hb⟩).mpr z.1))] at h; exact h
  · rw [decide_eq_false (fun z => c2 ((sb_x2 ⟨a, ha⟩ ⟨b, hb⟩).mpr z.2))] at h; exact h
  · rw [decide_eq_true ⟨(sb_x1 ⟨a, ha⟩ ⟨b, hb⟩).mp c, (sb_x2 ⟨a, ha⟩ ⟨b, hb⟩).mp c2⟩] at h; exact h
theorem s_lies {σ : St} {C : Cty} (hC : COk C) (hG : GX σ 0 C) {a : Nat} {P : Int32 → St → Prop} (h : P (if laB C (cn C) a then 1 else 0) σ) : w_X3_lies 0 (onC C a) σ P := by
  have hn := hC.1
  unfold w_X3_lies
  unfold laB at h
  rcases onC_rng (C := C) a with e | ⟨k, hk, e⟩
  · have e' : onF (cd C 4) (cn C) a = -1 := e
    rw [e', if_pos rfl] at h
    rw [e]
    refine s_has hn hG.2.1 (fun j hj z => absurd z.symm (nI_m1 (by omega))) (fun _ => ⟨fun _ => h, fun z => absurd rfl z⟩)
  · have e' : onF (cd C 4) (cn C) a = nI k := e
    rw [e', if_neg (nI_m1 (by omega)), cl_nI (by omega)] at h
    rw [e]
    refine s_has hn hG.2.1 (fun j hj z => ⟨fun z => absurd z (by decide), fun _ => ?_⟩) (fun z => absurd ⟨k, hk, rfl⟩ z)
    rw [hG.2.2.1, bt_val _ (by omega)]
    unfold lyB at h
    cases hb : bt (cu C) k
    · rw [hb] at h
      exact ⟨fun z => absurd rfl z, fun _ => h⟩
    · rw [hb] at h
      exact ⟨fun _ => h, fun z => absurd z (by decide)⟩
def tA (C : Cty) (a b : Nat) : Nat := if laB C (cn C) a then (if laB C (cn C) b then (if sbB a b then 1 else 0) else 0) else 0
def tB (C : Cty) (i j : Nat) : Nat := if lyB C i then (if lyB C j then (if sbB (plN C i) (plN C j) then 1 else 0) else 0) else 0
theorem tri_AB {C : Cty} (hC : COk C) : triF (tA C) 9 = triF (tB C) (cn C) := by
  -- only plates below 9 matter
  have A9 : triF (tA C) 9 = triF (fun a b => if a < 9 ∧ b < 9 then tA C a b else 0) 9 := by
    unfold triF
    exact smF_c _ _ (fun i _ hi => smF_c _ _ (fun j _ hj => (if_pos (by omega)).symm))
  have Bn : triF (tB C) (cn C) = triF (fun i j => if i < cn C ∧ j < cn C then tB C i j else 0) (cn C) := by
    unfold triF
    exact smF_c _ _ (fun i _ hi => smF_c _ _ (fun j _ hj => (if_pos (by omega)).symm))
  have A2 := tri_2 (fun a b => if a < 9 ∧ b < 9 then tA C a b else 0) (fun a b => by
    by_cases c : a < 9 ∧ b < 9
    · rw [if_pos c, if_pos ⟨c.2, c.1⟩]
      unfold tA
      rw [sb_sym ⟨a, c.1⟩ ⟨b, c.2⟩]
      cases laB C (cn C) a <;> cases laB C (cn C) b <;> rfl
    · rw [if_neg c, if_neg (fun z => c ⟨z.2, z.1⟩)]) (fun a => by
    by_cases c : a < 9
    · rw [if_pos ⟨c, c⟩]
      unfold tA
      rw [sb_self ⟨a, c⟩]
      cases laB C (cn C) a <;> rfl
    · rw [if_neg (fun z => c z.1)]) 9
  have B2 := tri_2 (fun i j => if i < cn C ∧ j < cn C then tB C i j else 0) (fun i j => by
    by_cases c : i < cn C ∧ j < cn C
    · rw [if_pos c, if_pos ⟨c.2, c.1⟩]
      unfold tB
      rw [sb_sym ⟨plN C i, (plN_e hC c.1).1⟩ ⟨plN C j, (plN_e hC c.2).1⟩]
      cases lyB C i <;> cases lyB C j <;> rfl
    · rw [if_neg c, if_neg (fun z => c ⟨z.2, z.1⟩)]) (fun i => by
    by_cases c : i < cn C
    · rw [if_pos ⟨c, c⟩]
      unfold tB
      rw [sb_self ⟨plN C i, (plN_e hC c).1⟩]
      cases lyB C i <;> rfl
    · rw [if_neg (fun z => c z.1)]) (cn C)
  have key : smF (fun a => smF (fun b => if a < 9 ∧ b < 9 then tA C a b else 0) 9 0) 9 0 = smF (fun i => smF (fun j => if i < cn C ∧ j < cn C then tB C i j else 0) (cn C) 0) (cn C) 0 := by
    have s1 : smF (fun a => smF (fun b => if a < 9 ∧ b < 9 then tA C a b else 0) 9 0) 9 0 = smF (fun a => if laB C (cn C) a then smF (fun b => if laB C (cn C) b then (if sbB a b then 1 else 0) else 0) 9 0 else 0) 9 0 := by
      refine smF_c _ _ (fun a _ ha => ?_)
      rw [smF_c (g := fun b => tA C a b) 9 0 (fun b _ hb => if_pos (by omega))]
      unfold tA
      cases laB C (cn C) a
      · exact smF_0 9 0
      · rfl
    rw [s1, re_ix hC (fun a => smF (fun b => if laB C (cn C) b then (if sbB a b then 1 else 0) else 0) 9 0) (cn C) (Nat.le_refl _)]
    refine smF_c _ _ (fun i _ hi => ?_)
    rw [smF_c (g := fun j => tB C i j) (cn C) 0 (fun j _ hj => if_pos (by omega)), re_ix hC (fun b => if sbB (plN C i) b then 1 else 0) (cn C) (Nat.le_refl _)]
    unfold tB
    cases lyB C i
    · exact (smF_0 _ _).symm
    · rfl
  rw [A9, Bn]
  omega
theorem s_xtalk {σ : St} {C : Cty} (hC : COk C) (hG : GX σ 0 C) {P : Int32 → St → Prop} (h : P (nI (triF (tA C) 9)) σ) : w_X3_pairsThatTalk 0 σ P := by
  have hn := hC.1
  have h7 := hG.2.2.2.2.2.2
  have loop : ∀ m i c, i + m = 9 → P (nI (c + smF (fun i => smF (tA C i) (9 - (i + 1)) (i + 1)) m i)) σ → w_X3_pairsThatTalk_b4 0 P (m + 1) (nI c) (nI i) σ := by
    intro m
    induction m with
    | zero =>
      intro i c hi h
      have : i = 9 := by omega
      subst this
      exact ⟨fun _ => h, fun z => absurd (by decide) z⟩
    | succ m ih =>
      intro i c hi h
      have inner : ∀ m2 j c, j + m2 = 9 → P (nI (c + smF (tA C i) m2 j + smF (fun i => smF (tA C i) (9 - (i + 1)) (i + 1)) m (i + 1))) σ → w_X3_pairsThatTalk_b14 0 (w_X3_pairsThatTalk_b4 0 P (m + 1)) P (m2 + 1) (nI c) (nI i) (nI j) σ := by
        intro m2
        induction m2 with
        | zero =>
          intro j c hj h
          have : j = 9 := by omega
          subst this
          unfold w_X3_pairsThatTalk_b14
          rw [nI_1]
          exact ⟨fun _ => ih (i + 1) c (by omega) h, fun z => absurd (by decide) z⟩
        | succ m2 ihj =>
          intro j c hj h
          unfold w_X3_pairsThatTalk_b14 w_X3_pairsThatTalk_b57
          rw [cl_nI (by omega), cl_nI (by omega), nI_1, nI_1, h7 i (by omega)]
          have e : smF (tA C i) (m2 + 1) j = tA C i j + smF (tA C i) m2 (j + 1) := rfl
          rw [e, ← Nat.add_assoc] at h
          refine ⟨fun z => absurd z (nI_ge (a := j) (b := 9) (by omega) (by decide)), fun _ => ⟨in_nI (by omega), s_lies hC hG ?_⟩⟩
          rw [show tA C i j = if laB C (cn C) i then (if laB C (cn C) j then (if sbB i j then 1 else 0) else 0) else 0 from rfl] at h
          cases ha : laB C (cn C) i
          · rw [ha] at h
            exact ⟨fun _ => ihj (j + 1) c (by omega) h, fun z => absurd rfl z⟩
          · rw [ha] at h
            refine ⟨fun z => absurd z (by decide), fun _ => ⟨in_nI (by omega), ?_⟩⟩
            rw [h7 j (by omega)]
            refine s_lies hC hG ?_
            cases hb : laB C (cn C) j
            · rw [hb] at h
              exact ⟨fun _ => ihj (j + 1) c (by omega) h, fun z => absurd rfl z⟩
            · rw [hb] at h
              refine ⟨fun z => absurd z (by decide), fun _ => s_side (by omega) (by omega) ?_⟩
              cases hs : sbB i j
              · rw [hs] at h
                exact ⟨fun _ => ihj (j + 1) c (by omega) h, fun z => absurd rfl z⟩
              · rw [hs] at h
                exact ⟨fun z => absurd z (by decide), fun _ => by rw [nI_1]; exact ihj (j + 1) (c + 1) (by omega) h⟩
      unfold w_X3_pairsThatTalk_b4
      refine ⟨fun z => absurd z (nI_ge (a := i) (b := 9) (by omega) (by decide)), fun _ => ⟨9 - (i + 1) + 1, ?_⟩⟩
      rw [nI_1]
      refine inner (9 - (i + 1)) (i + 1) c (by omega) ?_
      have e : smF (fun i => smF (tA C i) (9 - (i + 1)) (i + 1)) (m + 1) i = smF (tA C i) (9 - (i + 1)) (i + 1) + smF (fun i => smF (tA C i) (9 - (i + 1)) (i + 1)) m (i + 1) := rfl
      rw [e, ← Nat.add_assoc] at h
      exact h
  refine ⟨10, loop 9 0 0 rfl ?_⟩
  rw [Nat.zero_add]
  exact h
theorem s_mtalk {σ : St} {C : Cty} (hC : COk C) (hM : GM σ 189 0 C) (hG : MG σ C) {P : Int32 → St → Prop} (h : P (nI (triF (tB C) (cn C))) σ) : w_X8_talks σ P := by
  have hn := hC.1
  obtain ⟨m1, m45, -⟩ := hM.z
  have loop : ∀ m i c, i + m = cn C → P (nI (c + smF (fun i => smF (tB C i) (cn C - (i + 1)) (i + 1)) m i)) σ → w_X8_talks_b4 P (m + 1) (nI c) (nI i) σ := by
    intro m
    induction m with
    | zero =>
      intro i c hi h
      have : i = cn C := by omega
      subst this
      unfold w_X8_talks_b4
      rw [hG.1]
      exact ⟨fun _ => h, fun z => absurd (nI_le (Nat.le_refl _) (by omega)) z⟩
    | succ m ih =>
      intro i c hi h
      have hic : i < cn C := by omega
      obtain ⟨pi1, pi2⟩ := plN_e hC hic
      have inner : ∀ m2 j c, j + m2 = cn C → P (nI (c + smF (tB C i) m2 j + smF (fun i => smF (tB C i) (cn C - (i + 1)) (i + 1)) m (i + 1))) σ → w_X8_talks_b16 (w_X8_talks_b4 P (m + 1)) P (m2 + 1) (nI c) (nI i) (nI j) σ := by
        intro m2
        induction m2 with
        | zero =>
          intro j c hj h
          have : j = cn C := by omega
          subst this
          unfold w_X8_talks_b16
          rw [nI_1, hG.1]
          exact ⟨fun _ => ih (i + 1) c (by omega) h, fun z => absurd (nI_le (Nat.le_refl _) (by omega)) z⟩
        | succ m2 ihj =>
          intro j c hj h
          have hjc : j < cn C := by omega
          obtain ⟨pj1, pj2⟩ := plN_e hC hjc
          have e : smF (tB C i) (m2 + 1) j = tB C i j + smF (tB C i) m2 (j + 1) := rfl
          rw [e, ← Nat.add_assoc] at h
          have b97 : ∀ s0 : Int32, (s0 = if sbB (plN C i) (plN C j) then 1 else 0) → w_X8_talks_b97 (w_X8_talks_b4 P (m + 1)) (w_X8_talks_b16 (w_X8_talks_b4 P (m + 1)) P (m2 + 1)) P (nI c) (nI i) (nI j) s0 σ := by
            intro s0 hs0
            unfold w_X8_talks_b97 w_X8_talks_b137 w_X8_talks_b138
            rw [show tB C i j = if lyB C i then (if lyB C j then (if sbB (plN C i) (plN C j) then 1 else 0) else 0) else 0 from rfl] at h
            rw [m45, Int32.add_zero, nI_1, nI_1]
            have hx : ∀ k, k < 9 → (if (cu C >>> (nI k &&& 31)) &&& 1 = 1 then (1 : Int32) else 0) = if lyB C k then 0 else 1 := by
              intro k hk
              rw [bt_val _ (by omega)]
              unfold lyB
              cases bt (cu C) k <;> rfl
            cases hs : sbB (plN C i) (plN C j)
            · rw [hs] at hs0 h
              refine ⟨fun _ => ihj (j + 1) c (by omega) ?_, fun z => absurd hs0 z⟩
              cases ha : lyB C i <;> cases hb : lyB C j <;> (rw [ha, hb] at h; exact h)
            · rw [hs] at hs0 h
              refine ⟨fun z => by rw [hs0] at z; exact absurd z (by decide), fun _ => s_mhas ?_⟩
              rw [hx i (by omega)]
              cases ha : lyB C i
              · rw [ha] at h
                exact ⟨fun _ => ihj (j + 1) c (by omega) h, fun z => absurd z (by decide)⟩
              · rw [ha] at h
                refine ⟨fun z => absurd rfl z, fun _ => s_mhas ?_⟩
                rw [m45, hx j (by omega)]
                cases hb : lyB C j
                · rw [hb] at h
                  exact ⟨fun _ => ihj (j + 1) c (by omega) h, fun z => absurd z (by decide)⟩
                · rw [hb] at h
                  exact ⟨fun z => absurd rfl z, fun _ => ihj (j + 1) (c + 1) (by omega) h⟩
          unfold w_X8_talks_b16 w_X8_talks_b96
          have qi : σ 189 i = nI (plN C i) := (m1 i hic).1.trans pi2
          have qj : σ 189 j = nI (plN C j) := (m1 j hjc).1.trans pj2
          rw [hG.1, i32_z, i32_z, cl_nI (by omega), cl_nI (by omega), qi]
          refine ⟨fun z => absurd z (nI_ge (by omega) (by omega)), fun _ => ⟨in_nI (by omega), s_rowOf pi1 ⟨in_nI (by omega), ?_⟩⟩⟩
          rw [qj]
          refine s_rowOf pj1 ⟨in_nI (by omega), ?_⟩
          rw [qi]
          refine s_colOf pi1 ⟨in_nI (by omega), ?_⟩
          rw [qj]
          refine s_colOf pj1 ⟨fun c1 => ?_, fun c1 => ⟨fun c2 => ?_, fun c2 => ?_⟩⟩
          · exact b97 0 (by unfold sbB; rw [decide_eq_false (fun z => c1 z.1)]; rfl)
          · exact b97 0 (by unfold sbB; rw [decide_eq_false (fun z => c2 z.2)]; rfl)
          · exact b97 1 (by unfold sbB; rw [decide_eq_true ⟨c1, c2⟩]; rfl)
      unfold w_X8_talks_b4
      rw [hG.1]
      refine ⟨fun z => absurd z (nI_ge (by omega) (by omega)), fun _ => ⟨cn C - (i + 1) + 1, ?_⟩⟩
      rw [nI_1]
      refine inner (cn C - (i + 1)) (i + 1) c (by omega) ?_
      have e : smF (fun i => smF (tB C i) (cn C - (i + 1)) (i + 1)) (m + 1) i = smF (tB C i) (cn C - (i + 1)) (i + 1) + smF (fun i => smF (tB C i) (cn C - (i + 1)) (i + 1)) m (i + 1) := rfl
      rw [e, ← Nat.add_assoc] at h
      exact h
  refine ⟨cn C + 1, loop (cn C) 0 0 (by omega) ?_⟩
  rw [Nat.zero_add]
  exact h
