/-! ===== breadth first: the laws of the walk ===== -/
def dn (S : QS) (t : Nat) : Nat := (S.1 t).toNatClampNeg
def fn (S : QS) (t : Nat) : Nat := (S.2.1 t).toNatClampNeg
def qn (S : QS) (i : Nat) : Nat := (S.2.2.1 i).toNatClampNeg
def vis (f : Nat → Int32) : Nat := smF (fun i => if f i = -1 then 0 else 1) 512 0
theorem smF_le {f : Nat → Nat} (h : ∀ i, f i ≤ 1) : ∀ m k, smF f m k ≤ m := by
  intro m
  induction m with
  | zero => intro k; exact Nat.le_refl _
  | succ m ih => intro k; have := ih (k + 1); have := h k; unfold smF; omega
theorem vis_up {f : Nat → Int32} {p : Nat} (hp : p < 512) (h : f p = -1) {v : Int32} (hv : ¬ v = -1) : vis (upd f p v) = vis f + 1 ∧ vis f < 512 := by
  have e : vis (upd f p v) = vis f + 1 := by
    unfold vis
    rw [smF_u (g := fun i => if f i = -1 then 0 else 1) (p := p) (v := 1) (by rw [if_pos h]) (by unfold upd; rw [if_pos rfl, if_neg hv]) 512 (fun i _ hi => by unfold upd; rw [if_neg hi]) 512 0 (by omega), if_pos (by omega)]
  refine ⟨e, ?_⟩
  have : vis (upd f p v) ≤ 512 := by unfold vis; exact smF_le (fun i => by split <;> omega) _ _
  omega
theorem lf_e (C : Cty) {set : Nat} (k : Nat) (h : set < 512) : nI set &&& (faS C (nI set) k ^^^ -1) = nI (lfS C set k) ∧ lfS C set k ≤ set := by
  obtain ⟨f, hf, e⟩ := and_le set (faS C (nI set) k ^^^ -1)
  unfold lfS
  rw [e, cl_nI (by omega)]
  exact ⟨rfl, hf⟩
def Q1 (S : QS) : Prop := S.2.2.2 = vis S.1
def Q2 (S : QS) : Prop := ∀ i, i < S.2.2.2 → qn S i < 512 ∧ S.2.2.1 i = nI (qn S i) ∧ ¬ S.1 (qn S i) = -1
def Q3 (S : QS) : Prop := ∀ t, t < 512 → ¬ S.1 t = -1 → S.1 t = nI (dn S t) ∧ dn S t < 1000 ∧ (dn S t = 0 ∧ S.2.1 t = -1 ∨ (¬ dn S t = 0 ∧ S.2.1 t = nI (fn S t) ∧ fn S t < 600))
def Q4 (S : QS) : Prop := ∀ i j, i ≤ j → j < S.2.2.2 → dn S (qn S i) ≤ dn S (qn S j)
def Q5 (S : QS) : Prop := ∀ i, i < S.2.2.2 → dn S (qn S i) ≤ i
def Q6 (S : QS) (e : Nat) : Prop := ∀ t, t < 512 → ¬ S.1 t = -1 → dn S t ≤ dn S (qn S e) + 1
def Q7 (S : QS) : Prop := ∀ i j, i ≤ j → j < S.2.2.2 → dn S (qn S i) = dn S (qn S j) → ¬ dn S (qn S i) = 0 → fn S (qn S i) ≤ fn S (qn S j)
def Q8 (S : QS) (e k : Nat) : Prop := ∀ t, t < 512 → ¬ S.1 t = -1 → dn S t = dn S (qn S e) + 1 → (dn S (qn S e) = 0 → fn S t < k) ∧ (¬ dn S (qn S e) = 0 → fn S t ≤ fn S (qn S e))
def Q9 (S : QS) : Prop := ∀ i, i < S.2.2.2 → i ≠ 0 → ¬ dn S (qn S i) = 0
def QI (S : QS) (e k : Nat) : Prop := Q1 S ∧ Q2 S ∧ Q3 S ∧ Q4 S ∧ Q5 S ∧ (e < S.2.2.2 → Q6 S e) ∧ Q7 S ∧ (e < S.2.2.2 → Q8 S e k) ∧ Q9 S
theorem QI.c512 {S : QS} {e k : Nat} (h : QI S e k) : S.2.2.2 ≤ 512 := by
  rw [h.1]; unfold vis; exact smF_le (fun i => by split <;> omega) _ _
/-- one ball, from the set that is under way -/
theorem QI.step {C : Cty} {S : QS} {e k : Nat} (h : QI S e k) (he : e < S.2.2.2) (hk : k < 600) : QI (stpF C (qn S e) k S) e (k + 1) ∧ e < (stpF C (qn S e) k S).2.2.2 ∧ (∀ i, i < S.2.2.2 → (stpF C (qn S e) k S).2.2.1 i = S.2.2.1 i) ∧ (∀ t, t < 512 → ¬ S.1 t = -1 → (stpF C (qn S e) k S).1 t = S.1 t ∧ (stpF C (qn S e) k S).2.1 t = S.2.1 t) ∧ S.2.2.2 ≤ (stpF C (qn S e) k S).2.2.2 := by
  have h512 := h.c512
  obtain ⟨q1, q2, q3, q4, q5, q6, q7, q8, q9⟩ := h
  have q6 := q6 he
  have q8 := q8 he
  obtain ⟨s1, s2, s3⟩ := q2 e he
  obtain ⟨d1, d2, d3⟩ := q3 _ s1 s3
  have hl := (lf_e C k s1).2
  have de := q5 e he
  unfold stpF
  generalize lfS C (qn S e) k = l at hl ⊢
  by_cases hv : S.1 l = -1
  · rw [if_pos hv]
    have hls : l ≠ qn S e := fun z => s3 (by rw [← z]; exact hv)
    have ev : S.1 (qn S e) + 1 = nI (dn S (qn S e) + 1) := by rw [d1, nI_1]
    have hne : ¬ S.1 (qn S e) + 1 = -1 := by rw [ev]; exact nI_m1 (by omega)
    obtain ⟨v1, v2⟩ := vis_up (f := S.1) (p := l) (by omega) hv hne
    -- the new one's first ball
    obtain ⟨F, hF, eF, hF0, hF1⟩ : ∃ F : Nat, F < 600 ∧ (if S.1 (qn S e) = 0 then nI k else S.2.1 (qn S e)) = nI F ∧ (dn S (qn S e) = 0 → F = k) ∧ (¬ dn S (qn S e) = 0 → F = fn S (qn S e)) := by
      rcases d3 with ⟨z, -⟩ | ⟨z, z2, z3⟩
      · refine ⟨k, hk, ?_, fun _ => rfl, fun y => absurd z y⟩
        rw [if_pos (by rw [d1, z]; rfl)]
      · refine ⟨fn S (qn S e), z3, ?_, fun y => absurd y z, fun _ => rfl⟩
        rw [if_neg (by rw [d1]; exact nI_ne0 (by omega) (by omega))]; exact z2
    rw [eF, ev]
    generalize hS' : ((upd S.1 l (nI (dn S (qn S e) + 1)), upd S.2.1 l (nI F), upd S.2.2.1 S.2.2.2 (nI l), S.2.2.2 + 1) : QS) = S'
    have c' : S'.2.2.2 = S.2.2.2 + 1 := by rw [← hS']
    have x1 : S'.1 l = nI (dn S (qn S e) + 1) := by rw [← hS']; unfold upd; dsimp only; rw [if_pos rfl]
    have x1o : ∀ t, t ≠ l → S'.1 t = S.1 t := fun t ht => by rw [← hS']; unfold upd; dsimp only; rw [if_neg ht]
    have x2 : S'.2.1 l = nI F := by rw [← hS']; unfold upd; dsimp only; rw [if_pos rfl]
    have x2o : ∀ t, t ≠ l → S'.2.1 t = S.2.1 t := fun t ht => by rw [← hS']; unfold upd; dsimp only; rw [if_neg ht]
    have x3 : S'.2.2.1 S.2.2.2 = nI l := by rw [← hS']; unfold upd; dsimp only; rw [if_pos rfl]
    have x3o : ∀ i, i ≠ S.2.2.2 → S'.2.2.1 i = S.2.2.1 i := fun i hi => by rw [← hS']; unfold upd; dsimp only; rw [if_neg hi]
    have dl : dn S' l = dn S (qn S e) + 1 := by unfold dn; rw [x1, cl_nI (by omega)]; rfl
    have dO : ∀ t, t ≠ l → dn S' t = dn S t := fun t ht => by unfold dn; rw [x1o t ht]
    have fl' : fn S' l = F := by unfold fn; rw [x2, cl_nI (by omega)]
    have fO : ∀ t, t ≠ l → fn S' t = fn S t := fun t ht => by unfold fn; rw [x2o t ht]
    have ql : qn S' S.2.2.2 = l := by unfold qn; rw [x3, cl_nI (by omega)]
    have qO : ∀ i, i < S.2.2.2 → qn S' i = qn S i := fun i hi => by unfold qn; rw [x3o i (by omega)]
    have qne : ∀ i, i < S.2.2.2 → qn S i ≠ l := fun i hi z => (q2 i hi).2.2 (by rw [z]; exact hv)
    have dq : ∀ i, i < S.2.2.2 → dn S' (qn S' i) = dn S (qn S i) := fun i hi => by rw [qO i hi, dO _ (qne i hi)]
    have fq : ∀ i, i < S.2.2.2 → fn S' (qn S' i) = fn S (qn S i) := fun i hi => by rw [qO i hi, fO _ (qne i hi)]
    have dql : dn S' (qn S' S.2.2.2) = dn S (qn S e) + 1 := by rw [ql, dl]
    have fql : fn S' (qn S' S.2.2.2) = F := by rw [ql, fl']
    have vo : ∀ t, t ≠ l → ¬ S'.1 t = -1 → ¬ S.1 t = -1 := fun t ht => by rw [x1o t ht]; exact id
    have w1 : S'.1 = upd S.1 l (S.1 (qn S e) + 1) := by rw [← hS', ev]
    refine ⟨⟨?_, fun i hi => ?_, fun t ht hvt => ?_, fun i j hij hj => ?_, fun i hi => ?_, fun _ t ht hvt => ?_, fun i j hij hj hd hz => ?_, fun _ t ht hvt hd => ?_, fun i hi hi0 => ?_⟩, by omega, fun i hi => x3o i (by omega), fun t ht hvt => ?_, by omega⟩
    · show S'.2.2.2 = vis S'.1
      rw [c', w1, v1, q1]
    · by_cases ei : i = S.2.2.2
      · subst ei
        rw [ql]
        exact ⟨by omega, x3, by rw [x1]; exact nI_m1 (by omega)⟩
      · have hi' : i < S.2.2.2 := by omega
        rw [qO i hi', x3o i ei, x1o _ (qne i hi')]
        exact q2 i hi'
    · by_cases et : t = l
      · subst et
        rw [dl, x1, x2, fl']
        exact ⟨rfl, by omega, Or.inr ⟨by omega, rfl, hF⟩⟩
      · rw [dO t et, x1o t et, x2o t et, fO t et]
        exact q3 t ht (vo t et hvt)
    · by_cases ej : j = S.2.2.2
      · subst ej
        by_cases ei : i = S.2.2.2
        · subst ei; exact Nat.le_refl _
        · have hi' : i < S.2.2.2 := by omega
          rw [dq i hi', dql]
          exact q6 _ (q2 i hi').1 (q2 i hi').2.2
      · rw [dq i (by omega), dq j (by omega)]; exact q4 i j hij (by omega)
    · by_cases ei : i = S.2.2.2
      · subst ei; rw [dql]; omega
      · rw [dq i (by omega)]; exact q5 i (by omega)
    · rw [dq e he]
      by_cases et : t = l
      · subst et; rw [dl]; exact Nat.le_refl _
      · rw [dO t et]; exact q6 t ht (vo t et hvt)
    · by_cases ej : j = S.2.2.2
      · subst ej
        by_cases ei : i = S.2.2.2
        · subst ei; exact Nat.le_refl _
        · have hi' : i < S.2.2.2 := by omega
          rw [dq i hi', dql] at hd
          rw [fq i hi', fql]
          obtain ⟨y1, y2⟩ := q8 _ (q2 i hi').1 (q2 i hi').2.2 hd
          by_cases z : dn S (qn S e) = 0
          · have := y1 z; have := hF0 z; omega
          · have := y2 z; have := hF1 z; omega
      · rw [dq i (by omega)] at hd hz
        rw [dq j (by omega)] at hd
        rw [fq i (by omega), fq j (by omega)]; exact q7 i j hij (by omega) hd hz
    · rw [dq e he] at hd ⊢
      rw [fq e he]
      by_cases et : t = l
      · subst et
        rw [fl']
        exact ⟨fun z => by have := hF0 z; omega, fun z => by have := hF1 z; omega⟩
      · rw [dO t et] at hd
        rw [fO t et]
        obtain ⟨y1, y2⟩ := q8 t ht (vo t et hvt) hd
        exact ⟨fun z => by have := y1 z; omega, y2⟩
    · by_cases ei : i = S.2.2.2
      · subst ei; rw [dql]; omega
      · rw [dq i (by omega)]; exact q9 i (by omega) hi0
    · have et : t ≠ l := fun z => hvt (by rw [z]; exact hv)
      exact ⟨x1o t et, x2o t et⟩
  · rw [if_neg hv]
    refine ⟨⟨q1, q2, q3, q4, q5, fun _ => q6, q7, fun _ t ht hvt hd => ?_, q9⟩, he, fun _ _ => rfl, fun _ _ _ => ⟨rfl, rfl⟩, Nat.le_refl _⟩
    obtain ⟨y1, y2⟩ := q8 t ht hvt hd
    exact ⟨fun z => by have := y1 z; omega, y2⟩
theorem expF_l (C : Cty) (set : Nat) : ∀ m k S, expF C set (m + 1) k S = stpF C set (k + m) (expF C set m k S) := by
  intro m
  induction m with
  | zero => intro k S; rfl
  | succ m ih =>
    intro k S
    have e1 : expF C set (m + 1 + 1) k S = expF C set (m + 1) (k + 1) (stpF C set k S) := by rw [expF]
    have e2 : expF C set (m + 1) k S = expF C set m (k + 1) (stpF C set k S) := by rw [expF]
    rw [e1, e2, ih (k + 1), show k + 1 + m = k + (m + 1) by omega]
theorem expF_0 (C : Cty) (set k : Nat) (S : QS) : expF C set 0 k S = S := by rw [expF]
/-- k balls have gone from the set under way -/
def XP (C : Cty) (S : QS) (e k : Nat) : QS := expF C (qn S e) k 0 S
theorem XP_0 (C : Cty) (S : QS) (e : Nat) : XP C S e 0 = S := expF_0 _ _ _ _
theorem XP_s (C : Cty) (S : QS) (e k : Nat) : XP C S e (k + 1) = stpF C (qn S e) k (XP C S e k) := by
  unfold XP; rw [expF_l, Nat.zero_add]
theorem QI.exp {C : Cty} {S : QS} {e : Nat} (h : QI S e 0) (he : e < S.2.2.2) : ∀ k, k ≤ 600 → QI (XP C S e k) e k ∧ e < (XP C S e k).2.2.2 ∧ qn (XP C S e k) e = qn S e ∧ (∀ t, t < 512 → ¬ S.1 t = -1 → (XP C S e k).1 t = S.1 t ∧ (XP C S e k).2.1 t = S.2.1 t) ∧ S.2.2.2 ≤ (XP C S e k).2.2.2 := by
  intro k
  induction k with
  | zero => intro _; rw [XP_0]; exact ⟨h, he, rfl, fun _ _ _ => ⟨rfl, rfl⟩, Nat.le_refl _⟩
  | succ k ih =>
    intro hk
    obtain ⟨a1, a2, a3, a4, a5⟩ := ih (by omega)
    obtain ⟨b1, b2, b3, b4, b5⟩ := a1.step (C := C) a2 (show k < 600 by omega)
    rw [a3] at b1 b2 b3 b4 b5
    rw [XP_s]
    refine ⟨b1, b2, ?_, fun t ht hv => ?_, by omega⟩
    · have e3 := b3 e a2
      show ((stpF C (qn S e) k (XP C S e k)).2.2.1 e).toNatClampNeg = qn S e
      rw [e3]; exact a3
    · obtain ⟨c1, c2⟩ := a4 t ht hv
      obtain ⟨d1, d2⟩ := b4 t ht (by rw [c1]; exact hv)
      exact ⟨d1.trans c1, d2.trans c2⟩
theorem QI.next {C : Cty} {S : QS} {e : Nat} (h : QI S e 600) (he : e < S.2.2.2) : QI S (e + 1) 0 := by
  obtain ⟨q1, q2, q3, q4, q5, q6, q7, q8, q9⟩ := h
  have q6 := q6 he
  have q8 := q8 he
  refine ⟨q1, q2, q3, q4, q5, fun he2 t ht hv => ?_, q7, fun he2 t ht hv hd => ?_, q9⟩
  · have := q6 t ht hv
    have := q4 e (e + 1) (by omega) he2
    omega
  · have a := q6 t ht hv
    have b := q4 e (e + 1) (by omega) he2
    have c := q9 (e + 1) he2 (by omega)
    have ee : dn S (qn S e) = dn S (qn S (e + 1)) := by omega
    refine ⟨fun z => absurd z c, fun z => ?_⟩
    have := (q8 t ht hv (by omega)).2 (by omega)
    have := q7 e (e + 1) (by omega) he2 ee (by omega)
    omega
theorem bfs0_ok {C : Cty} (hC : COk C) : QI (bfs0 C) 0 0 := by
  obtain ⟨u, hu, hu2, eu⟩ := hC.up
  have e1 : (bfs0 C).1 = upd (fun _ => -1) u 0 := by unfold bfs0; rw [eu, cl_nI (by omega)]
  have e2 : ∀ t, (bfs0 C).2.1 t = -1 := fun _ => rfl
  have e3 : (bfs0 C).2.2.1 0 = nI u := by unfold bfs0 upd; dsimp only; rw [if_pos rfl, eu]
  have e4 : (bfs0 C).2.2.2 = 1 := rfl
  have q0 : qn (bfs0 C) 0 = u := by unfold qn; rw [e3, cl_nI (by omega)]
  have v : ∀ t, ¬ (bfs0 C).1 t = -1 → t = u := fun t h => by
    by_cases c : t = u
    · exact c
    · rw [e1] at h; unfold upd at h; rw [if_neg c] at h; exact absurd rfl h
  have d0 : (bfs0 C).1 u = 0 := by rw [e1]; unfold upd; rw [if_pos rfl]
  have dz : dn (bfs0 C) u = 0 := by unfold dn; rw [d0]; rfl
  have hvis : vis (fun _ => (-1 : Int32)) = 0 := by
    unfold vis
    rw [smF_c (g := fun _ => 0) _ _ (fun i _ _ => if_pos rfl), smF_0]
  refine ⟨?_, fun i hi => ?_, fun t ht hv => ?_, fun i j hij hj => ?_, fun i hi => ?_, fun _ t ht hv => ?_, fun i j hij hj hd hz => ?_, fun _ t ht hv hd => ?_, fun i hi hi0 => ?_⟩
  · show (bfs0 C).2.2.2 = vis (bfs0 C).1
    rw [e1, (vis_up (f := fun _ => -1) (p := u) (v := 0) hu rfl (by decide)).1, hvis, e4]
  · have : i = 0 := by omega
    subst this
    rw [q0]
    exact ⟨hu, e3, by rw [d0]; decide⟩
  · have := v t hv
    subst this
    rw [dz, d0]
    exact ⟨rfl, by omega, Or.inl ⟨rfl, e2 _⟩⟩
  · have : i = 0 := by omega
    have : j = 0 := by omega
    subst i j; exact Nat.le_refl _
  · have : i = 0 := by omega
    subst this; rw [q0, dz]; exact Nat.le_refl _
  · rw [v t hv, dz]; exact Nat.zero_le _
  · have : i = 0 := by omega
    have : j = 0 := by omega
    subst i j; exact Nat.le_refl _
  · rw [v t hv, dz] at hd; omega
  · omega
theorem bfsF_go (C : Cty) (f e : Nat) {S : QS} (h : e < S.2.2.2 ∧ S.1 0 = -1) : bfsF C (f + 1) e S = bfsF C f (e + 1) (XP C S e 600) := by
  rw [bfsF, if_pos h]; rfl
theorem bfsF_end (C : Cty) (f e : Nat) {S : QS} (h : ¬ (e < S.2.2.2 ∧ S.1 0 = -1)) : bfsF C f e S = S := by
  cases f with
  | zero => rw [bfsF]
  | succ f => rw [bfsF, if_neg h]
theorem XP_keep {C : Cty} {S : QS} {e : Nat} (h : QI S e 0) (he : e < S.2.2.2) {k : Nat} {t : Nat} (ht : t < 512) : ∀ m, k + m ≤ 600 → ¬ (XP C S e k).1 t = -1 → (XP C S e (k + m)).1 t = (XP C S e k).1 t ∧ (XP C S e (k + m)).2.1 t = (XP C S e k).2.1 t := by
  intro m
  induction m with
  | zero => intro _ _; exact ⟨rfl, rfl⟩
  | succ m ih =>
    intro hk hv
    obtain ⟨a, b⟩ := ih (by omega) hv
    obtain ⟨a1, a2, a3, a4, a5⟩ := h.exp (C := C) he (k + m) (by omega)
    obtain ⟨b1, b2, b3, b4, b5⟩ := a1.step (C := C) a2 (show k + m < 600 by omega)
    rw [a3] at b4
    rw [show k + (m + 1) = (k + m) + 1 by omega, XP_s]
    obtain ⟨d1, d2⟩ := b4 t ht (by rw [a]; exact hv)
    exact ⟨d1.trans a, d2.trans b⟩
theorem XP_skip {C : Cty} {S : QS} {e : Nat} (h : QI S e 0) (he : e < S.2.2.2) {b : Nat} : ∀ j, b + j ≤ 600 → (∀ i, i < j → lfS C (qn S e) (b + i) = qn S e) → XP C S e (b + j) = XP C S e b := by
  intro j
  induction j with
  | zero => intro _ _; rfl
  | succ j ih =>
    intro hb hs
    rw [show b + (j + 1) = (b + j) + 1 by omega, XP_s, ih (by omega) (fun i hi => hs i (by omega))]
    obtain ⟨a1, a2, a3, a4, a5⟩ := h.exp (C := C) he b (by omega)
    unfold stpF
    rw [hs j (by omega), if_neg]
    have := (a1.2.1 e a2).2.2
    rw [a3] at this
    exact this
