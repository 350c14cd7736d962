/-! ===== what class and reference have in common between two calls ===== -/
def zf : Nat → Int32 := fun _ => 0
/-- who falls by ball k of those in a set -/
def faS (C : Cty) (set : Int32) (k : Nat) : Int32 := set &&& ((blF (onC C) (beC C) (cf C / 3) (nI (k / 120)) (nI (k / 40 % 3)) (nI (1 + k % 40)) set zf zf).1.1 ^^^ -1)
/-- breadth first: how far a set is, by which first ball, the queue -/
abbrev QS : Type := (Nat → Int32) × (Nat → Int32) × (Nat → Int32) × Nat
def lfS (C : Cty) (set k : Nat) : Nat := (nI set &&& (faS C (nI set) k ^^^ -1)).toNatClampNeg
def stpF (C : Cty) (set k : Nat) (S : QS) : QS := if S.1 (lfS C set k) = -1 then (upd S.1 (lfS C set k) (S.1 set + 1), upd S.2.1 (lfS C set k) (if S.1 set = 0 then nI k else S.2.1 set), upd S.2.2.1 S.2.2.2 (nI (lfS C set k)), S.2.2.2 + 1) else S
def expF (C : Cty) (set : Nat) : Nat → Nat → QS → QS
  | 0, _, S => S
  | m + 1, k, S => expF C set m (k + 1) (stpF C set k S)
def bfsF (C : Cty) : Nat → Nat → QS → QS
  | 0, _, S => S
  | f + 1, e, S => if e < S.2.2.2 ∧ S.1 0 = -1 then bfsF C f (e + 1) (expF C (S.2.2.1 e).toNatClampNeg 600 0 S) else S
def bfs0 (C : Cty) : QS := (upd (fun _ => -1) (cu C).toNatClampNeg 0, fun _ => -1, upd (fun _ => 0) 0 (cu C), 1)
def adN (C : Cty) : Int32 := (bfsF C 512 0 (bfs0 C)).1 0
def adF (C : Cty) : Int32 := if adN C = -1 then -1 else (bfsF C 512 0 (bfs0 C)).2.1 0
def CC (C D : Cty) : Prop := cn D = cn C ∧ cf D = cf C ∧ ∀ k, k < cn C → cd D 2 k = cd C 2 k
def TX (σ : St) (C : Cty) : Prop := σ 176 1 = 0 ∨ (σ 176 1 = 1 ∧ ∀ b, b < 600 → σ 177 b = faS C (cu C) b)
def AX (σ : St) (C : Cty) : Prop := σ 178 4 = 0 ∨ (σ 178 4 = 1 ∧ σ 178 5 = adN C ∧ σ 178 6 = adF C)
def ImX (σ : St) (C : Cty) (I : Nat → Cty) : Prop := ∀ i, i < 2 → (σ 169 i = 0 ∧ σ 191 i = 0) ∨ (σ 169 i = 1 ∧ σ 191 i = 1 ∧ COk (I i) ∧ CC C (I i) ∧ GX σ (16 + 8 * i) (I i) ∧ GM σ 190 (49 * i) (I i) ∧ σ 170 i = σ 190 (49 * i + 48) ∧ ¬ σ 170 i < 0)
def TxX (σ : St) : Prop := ∃ m : Nat, m ≤ 240 ∧ σ 161 4 = nI m ∧ σ 185 2 = nI m ∧ ∀ k, k < m → σ 162 k = σ 186 k ∧ ∃ a : Nat, a < 256 ∧ σ 162 k = nI a
def BkX (σ : St) (n : Nat) : Prop := ∃ m : Nat, m ≤ 15 ∧ σ 182 2 = nI m ∧ σ 185 21 = nI m ∧ ∀ k, k < m → σ 183 k = σ 193 k ∧ (∃ s : Nat, s < n ∧ σ 183 k = nI s) ∧ σ 184 k = σ 194 k ∧ (σ 184 k = 0 ∨ σ 184 k = 1)
def SdX (σ : St) : Prop := σ 160 11 = σ 189 48 ∧ ¬ σ 160 11 < 0
def RelC (σ : St) (C : Cty) (L : List Cty) (I : Nat → Cty) : Prop :=
  COk C ∧ GX σ 0 C ∧ GM σ 189 0 C ∧ MG σ C ∧ (∀ D ∈ L, COk D ∧ CC C D) ∧ PX σ L ∧ PM σ L ∧ ImX σ C I ∧ TxX σ ∧ σ 160 12 = σ 185 6 ∧ SdX σ ∧ BkX σ (cn C) ∧ TX σ C ∧ AX σ C
def Rel (σ : St) : Prop := ∃ (C : Cty) (L : List Cty) (I : Nat → Cty), RelC σ C L I
theorem MG.of {σ σ' : St} {C : Cty} (h : MG σ C) (h7 : σ' 185 7 = σ 185 7) (h8 : σ' 185 8 = σ 185 8) (h9 : σ' 185 9 = σ 185 9) (hw : σ' 188 = σ 188) : MG σ' C := by
  obtain ⟨a, b, c⟩ := h
  exact ⟨by rw [h9]; exact a, by rw [hw]; exact b, by rw [h7, h8]; exact c⟩
theorem MG.cc {σ : St} {C D : Cty} (h : MG σ C) (c : CC C D) : MG σ D := by
  obtain ⟨a, b, e⟩ := h
  exact ⟨by rw [c.1]; exact a, fun k hk => by rw [c.1] at hk; rw [c.2.2 k hk]; exact b k hk, by rw [c.2.1]; exact e⟩
theorem CC.rf (C : Cty) : CC C C := ⟨rfl, rfl, fun _ _ => rfl⟩
theorem CC.trans {C D E : Cty} (h : CC C D) (h2 : CC D E) : CC C E := ⟨h2.1.trans h.1, h2.2.1.trans h.2.1, fun k hk => (h2.2.2 k (by rw [h.1]; exact hk)).trans (h.2.2 k hk)⟩
theorem CC.symm {C D : Cty} (h : CC C D) : CC D C := ⟨h.1.symm, h.2.1.symm, fun k hk => (h.2.2 k (by rw [← h.1]; exact hk)).symm⟩
theorem PX.of {σ σ' : St} {L : List Cty} (h : PX σ L) (h1 : σ' 166 1 = σ 166 1) (h2 : σ' 166 2 = σ 166 2) (e : ∀ q, 32 ≤ q → q < 160 → σ' q = σ q) : PX σ' L := by
  obtain ⟨a, b, nx, c, d, f⟩ := h
  refine ⟨a, by rw [h2]; exact b, nx, c, by rw [h1]; exact d, fun i C hi => (f i C hi).of (fun q b1 b2 => e q (by omega) (by have := Nat.mod_lt (nx + 15 - i) (show 0 < 16 by decide); omega))⟩
theorem PM.of {σ σ' : St} {L : List Cty} (h : PM σ L) (hL : ∀ D ∈ L, COk D) (h1 : σ' 185 18 = σ 185 18) (e : σ' 192 = σ 192) : PM σ' L := by
  obtain ⟨a, b, c⟩ := h
  exact ⟨a, by rw [h1]; exact b, fun i C hi => (c i C hi).of (hL C (List.mem_of_getElem? hi)).1 (fun k _ _ => by rw [e])⟩
theorem ImX.of {σ σ' : St} {C : Cty} {I : Nat → Cty} (h : ImX σ C I) (e : ∀ q, 16 ≤ q → q < 32 → σ' q = σ q) (h1 : σ' 169 = σ 169) (h2 : σ' 170 = σ 170) (h3 : σ' 190 = σ 190) (h4 : σ' 191 = σ 191) : ImX σ' C I := by
  intro i hi
  rw [h1, h2, h3, h4]
  rcases h i hi with a | ⟨a1, a2, a3, a4, a5, a6, a7, a8⟩
  · exact Or.inl a
  · exact Or.inr ⟨a1, a2, a3, a4, a5.of (fun q b1 b2 => e q (by omega) (by omega)), a6.of a3.1 (fun k _ _ => by rw [h3]), a7, a8⟩
theorem TxX.of {σ σ' : St} (h : TxX σ) (h1 : σ' 161 4 = σ 161 4) (h2 : σ' 185 2 = σ 185 2) (h3 : σ' 162 = σ 162) (h4 : σ' 186 = σ 186) : TxX σ' := by
  obtain ⟨m, a, b, c, d⟩ := h
  exact ⟨m, a, by rw [h1]; exact b, by rw [h2]; exact c, by rw [h3, h4]; exact d⟩
theorem BkX.of {σ σ' : St} {n : Nat} (h : BkX σ n) (h1 : σ' 182 2 = σ 182 2) (h2 : σ' 185 21 = σ 185 21) (h3 : σ' 183 = σ 183) (h4 : σ' 193 = σ 193) (h5 : σ' 184 = σ 184) (h6 : σ' 194 = σ 194) : BkX σ' n := by
  obtain ⟨m, a, b, c, d⟩ := h
  exact ⟨m, a, by rw [h1]; exact b, by rw [h2]; exact c, by rw [h3, h4, h5, h6]; exact d⟩
theorem TX.of {σ σ' : St} {C : Cty} (h : TX σ C) (h1 : σ' 176 1 = σ 176 1) (h2 : σ' 177 = σ 177) : TX σ' C := by unfold TX; rw [h1, h2]; exact h
theorem AX.of {σ σ' : St} {C : Cty} (h : AX σ C) (h1 : σ' 178 = σ 178) : AX σ' C := by unfold AX; rw [h1]; exact h
/-- a call that only tries: scratch cells alone, and the two caches -/
def Scr (q : Nat) : Prop := (8 ≤ q ∧ q < 16) ∨ (171 ≤ q ∧ q < 182) ∨ q = 185 ∨ (195 ≤ q ∧ q < 205)
theorem RelC.tried {σ σ' : St} {C : Cty} {L : List Cty} {I : Nat → Cty} (h : RelC σ C L I) (e : ∀ q, q < 205 → ¬ Scr q → σ' q = σ q) (e5 : ∀ k, k ≠ 0 → k ≠ 26 → k ≠ 27 → k ≠ 28 → σ' 185 k = σ 185 k) (hT : TX σ' C) (hA : AX σ' C) : RelC σ' C L I := by
  obtain ⟨a1, a2, a3, a4, a5, a6, a7, a8, a9, a10, a11, a12, a13, a14⟩ := h
  have n : ∀ q, q < 205 → ((8 ≤ q ∧ q < 16) ∨ (171 ≤ q ∧ q < 182) ∨ q = 185 ∨ (195 ≤ q ∧ q < 205) → False) → σ' q = σ q := fun q h1 h2 => e q h1 h2
  have z : ∀ q, q < 205 → (q < 8 ∨ (16 ≤ q ∧ q < 171) ∨ (182 ≤ q ∧ q < 185) ∨ (186 ≤ q ∧ q < 195)) → σ' q = σ q := fun q h1 h2 => n q h1 (by omega)
  refine ⟨a1, a2.of (fun q b1 b2 => z q (by omega) (by omega)), a3.of a1.1 (fun k _ _ => by rw [z 189 (by decide) (by omega)]), a4.of (e5 7 (by decide) (by decide) (by decide) (by decide)) (e5 8 (by decide) (by decide) (by decide) (by decide)) (e5 9 (by decide) (by decide) (by decide) (by decide)) (z 188 (by decide) (by omega)), a5, a6.of (by rw [z 166 (by decide) (by omega)]) (by rw [z 166 (by decide) (by omega)]) (fun q b1 b2 => z q (by omega) (by omega)), a7.of (fun D hD => (a5 D hD).1) (e5 18 (by decide) (by decide) (by decide) (by decide)) (z 192 (by decide) (by omega)), a8.of (fun q b1 b2 => z q (by omega) (by omega)) (z 169 (by decide) (by omega)) (z 170 (by decide) (by omega)) (z 190 (by decide) (by omega)) (z 191 (by decide) (by omega)), a9.of (by rw [z 161 (by decide) (by omega)]) (e5 2 (by decide) (by decide) (by decide) (by decide)) (z 162 (by decide) (by omega)) (z 186 (by decide) (by omega)), ?_, ?_, a12.of (by rw [z 182 (by decide) (by omega)]) (e5 21 (by decide) (by decide) (by decide) (by decide)) (z 183 (by decide) (by omega)) (z 193 (by decide) (by omega)) (z 184 (by decide) (by omega)) (z 194 (by decide) (by omega)), hT, hA⟩
  · rw [z 160 (by decide) (by omega), e5 6 (by decide) (by decide) (by decide) (by decide)]; exact a10
  · unfold SdX; rw [z 160 (by decide) (by omega), z 189 (by decide) (by omega)]; exact a11
/-- a call that does something to the county: it can be undone, the caches are gone -/
theorem RelC.done {σ σ' : St} {C C' : Cty} {L L' : List Cty} {I : Nat → Cty} (h : RelC σ C L I) (hC : COk C') (hcc : CC C C') (hG : GX σ' 0 C') (hM : GM σ' 189 0 C') (hL : ∀ D ∈ L', COk D ∧ CC C D) (hPX : PX σ' L') (hPM : PM σ' L') (hsd : SdX σ')
    (e : ∀ q, ((16 ≤ q ∧ q < 32) ∨ (161 ≤ q ∧ q < 166) ∨ (167 ≤ q ∧ q < 171) ∨ (182 ≤ q ∧ q < 185) ∨ (186 ≤ q ∧ q < 189) ∨ q = 190 ∨ q = 191 ∨ q = 193 ∨ q = 194) → σ' q = σ q) (e0 : σ' 160 12 = σ 160 12) (e5 : ∀ k, k ≠ 0 → k ≠ 18 → k ≠ 26 → k ≠ 27 → k ≠ 28 → σ' 185 k = σ 185 k) (hT : σ' 176 1 = 0) (hA : σ' 178 4 = 0) : RelC σ' C' L' I := by
  obtain ⟨a1, a2, a3, a4, a5, a6, a7, a8, a9, a10, a11, a12, a13, a14⟩ := h
  refine ⟨hC, hG, hM, (a4.of (e5 7 (by decide) (by decide) (by decide) (by decide) (by decide)) (e5 8 (by decide) (by decide) (by decide) (by decide) (by decide)) (e5 9 (by decide) (by decide) (by decide) (by decide) (by decide)) (e 188 (by omega))).cc hcc, fun D hD => ⟨(hL D hD).1, hcc.symm.trans (hL D hD).2⟩, hPX, hPM, ?_, a9.of (by rw [e 161 (by omega)]) (e5 2 (by decide) (by decide) (by decide) (by decide) (by decide)) (e 162 (by omega)) (e 186 (by omega)), ?_, hsd, ?_, Or.inl hT, Or.inl hA⟩
  · have h8 := a8.of (σ' := σ') (fun q b1 b2 => e q (by omega)) (e 169 (by omega)) (e 170 (by omega)) (e 190 (by omega)) (e 191 (by omega))
    intro i hi
    rcases h8 i hi with a | ⟨c1, c2, c3, c4, c5⟩
    · exact Or.inl a
    · exact Or.inr ⟨c1, c2, c3, hcc.symm.trans c4, c5⟩
  · rw [e0, e5 6 (by decide) (by decide) (by decide) (by decide) (by decide)]; exact a10
  · rw [hcc.1]
    exact a12.of (by rw [e 182 (by omega)]) (e5 21 (by decide) (by decide) (by decide) (by decide) (by decide)) (e 183 (by omega)) (e 193 (by omega)) (e 184 (by omega)) (e 194 (by omega))
