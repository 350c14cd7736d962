abbrev Mx : Type := Program × Launch × Env × Room × State × MethodId × Array Value × List Frame × Method × Code × Nat × Nat
abbrev St : Type := Nat → Nat → Int32
abbrev Wd : Type := va_G × (Nat → Nat) × (Nat → Prop) × ClassId × ClassId × ClassId × Nat × Nat × Nat
abbrev wD (ω : Wd) : va_G := ω.1
abbrev wh (ω : Wd) : Nat → Nat := ω.2.1
abbrev wA (ω : Wd) : Nat → Prop := ω.2.2.1
abbrev wI (ω : Wd) : ClassId := ω.2.2.2.1
abbrev wZ (ω : Wd) : ClassId := ω.2.2.2.2.1
abbrev wG (ω : Wd) : ClassId := ω.2.2.2.2.2.1
abbrev wR (ω : Wd) : Nat := ω.2.2.2.2.2.2.1
abbrev wC (ω : Wd) : Nat := ω.2.2.2.2.2.2.2.1
abbrev wP (ω : Wd) : Nat := ω.2.2.2.2.2.2.2.2
abbrev xl (x : Mx) : Launch := x.2.1
abbrev xR (x : Mx) : Room := x.2.2.2.1
abbrev xs (x : Mx) : State := x.2.2.2.2.1
abbrev xm (x : Mx) : MethodId := x.2.2.2.2.2.1
abbrev xa (x : Mx) : Array Value := x.2.2.2.2.2.2.1
abbrev xb (x : Mx) : List Frame := x.2.2.2.2.2.2.2.1
abbrev xM (x : Mx) : Method := x.2.2.2.2.2.2.2.2.1
abbrev xc (x : Mx) : Code := x.2.2.2.2.2.2.2.2.2.1
abbrev xk (x : Mx) : Nat := x.2.2.2.2.2.2.2.2.2.2.1
abbrev xn (x : Mx) : Nat := x.2.2.2.2.2.2.2.2.2.2.2
/-- a cell becomes another -/
def sa (σ : St) (q : Nat) (f : Nat → Int32) : St := fun j => if j = q then f else σ j
/-- one place of a cell becomes another -/
def su (σ : St) (q k : Nat) (v : Int32) : St := sa σ q (upd (σ q) k v)
abbrev cls : List vw_C := [(RX0, TX0, 7), (RX1, TX1, 3), (RX2, TX2, 10), (RX3, TX3, 12), (RX4, TX4, 3), (RX5, TX5, 8), (RX6, TX6, 2), (RX7, TX7, 13), (RX8, TX8, 35)]
def fX0 (ω : Wd) (f : Nat → Int32) : List Value := [.ref (wh ω 179), .ref (wh ω 180), .ref (wh ω 181), .int (f 3), .int (f 4), .int (f 5), .int (f 6)]
def fX1 (ω : Wd) (f : Nat → Int32) : List Value := [.ref (wh ω 183), .ref (wh ω 184), .int (f 2)]
def fX2 (ω : Wd) (f : Nat → Int32) : List Value := [.ref (wh ω 162), .ref (wh ω 163), .ref (wh ω 164), .ref (wh ω 165), .int (f 4), .int (f 5), .int (f 6), .int (f 7), .int (f 8), .int (f 9)]
def fX3 (ω : Wd) (q : Nat) (f : Nat → Int32) : List Value := [.ref (wh ω (q + 1)), .ref (wh ω (q + 2)), .ref (wh ω (q + 3)), .ref (wh ω (q + 4)), .ref (wh ω (q + 5)), .ref (wh ω (q + 6)), .ref (wh ω (q + 7)), .int (f 7), .int (f 8), .int (f 9), .int (f 10), .int (f 11)]
def fX4 (ω : Wd) (f : Nat → Int32) : List Value := [.ref (wh ω 167), .int (f 1), .int (f 2)]
def fX5 (ω : Wd) (f : Nat → Int32) : List Value := [.ref (wh ω 172), .ref (wh ω 173), .ref (wh ω 174), .ref (wh ω 175), .int (f 4), .int (f 5), .int (f 6), .int (f 7)]
def fX6 (ω : Wd) (f : Nat → Int32) : List Value := [.ref (wh ω 177), .int (f 1)]
def fX7 (ω : Wd) (f : Nat → Int32) : List Value := [.ref (wh ω 161), .ref (wh ω 0), .ref (wh ω 8), .ref (wh ω 166), .ref (wh ω 168), .ref (wh ω 169), .ref (wh ω 170), .ref (wh ω 171), .ref (wh ω 176), .ref (wh ω 178), .ref (wh ω 182), .int (f 11), .int (f 12)]
def fX8 (ω : Wd) (f : Nat → Int32) : List Value := [.int (f 0), .ref (wh ω 186), .int (f 2), .int (f 3), .int (f 4), .int (f 5), .int (f 6), .int (f 7), .int (f 8), .int (f 9), .int (f 10), .int (f 11), .ref (wh ω 187), .ref (wh ω 188), .ref (wh ω 189), .ref (wh ω 190), .ref (wh ω 191), .ref (wh ω 192), .int (f 18), .ref (wh ω 193), .ref (wh ω 194), .int (f 21), .ref (wh ω 195), .ref (wh ω 196), .ref (wh ω 197), .ref (wh ω 198), .int (f 26), .int (f 27), .int (f 28), .ref (wh ω 199), .ref (wh ω 200), .ref (wh ω 201), .ref (wh ω 202), .ref (wh ω 203), .ref (wh ω 204)]
/-- the cell of a number, by what it holds -/
def ceJ (ω : Wd) (q : Nat) (f : Nat → Int32) : va_E :=
  if q < 160 then (if q % 8 = 0 then .inr (3, fX3 ω q f) else .inl (wI ω, 9, .inl f))
  else match q - 160 with
    | 0 => .inr (7, fX7 ω f)
    | 1 => .inr (2, fX2 ω f)
    | 2 => .inl (wI ω, 240, .inl f)
    | 3 => .inl (wI ω, 9, .inl f)
    | 4 => .inl (wI ω, 9, .inl f)
    | 5 => .inl (wI ω, 9, .inl f)
    | 6 => .inr (4, fX4 ω f)
    | 7 => .inl (wG ω, 16, .inr (.inr (.inr (.inr (fun i => some (wh ω (32 + 8 * i)))))))
    | 8 => .inl (wG ω, 2, .inr (.inr (.inr (.inr (fun i => some (wh ω (16 + 8 * i)))))))
    | 9 => .inl (wZ ω, 2, .inl f)
    | 10 => .inl (wI ω, 2, .inl f)
    | 11 => .inr (5, fX5 ω f)
    | 12 => .inl (wI ω, 9, .inl f)
    | 13 => .inl (wI ω, 9, .inl f)
    | 14 => .inl (wI ω, 9, .inl f)
    | 15 => .inl (wI ω, 9, .inl f)
    | 16 => .inr (6, fX6 ω f)
    | 17 => .inl (wI ω, 600, .inl f)
    | 18 => .inr (0, fX0 ω f)
    | 19 => .inl (wI ω, 512, .inl f)
    | 20 => .inl (wI ω, 512, .inl f)
    | 21 => .inl (wI ω, 512, .inl f)
    | 22 => .inr (1, fX1 ω f)
    | 23 => .inl (wI ω, 15, .inl f)
    | 24 => .inl (wZ ω, 15, .inl f)
    | 25 => .inr (8, fX8 ω f)
    | 26 => .inl (wI ω, 240, .inl f)
    | 27 => .inl (wI ω, 27, .inl f)
    | 28 => .inl (wI ω, 9, .inl f)
    | 29 => .inl (wI ω, 49, .inl f)
    | 30 => .inl (wI ω, 98, .inl f)
    | 31 => .inl (wZ ω, 2, .inl f)
    | 32 => .inl (wI ω, 784, .inl f)
    | 33 => .inl (wI ω, 15, .inl f)
    | 34 => .inl (wZ ω, 15, .inl f)
    | 35 => .inl (wI ω, 9, .inl f)
    | 36 => .inl (wI ω, 9, .inl f)
    | 37 => .inl (wI ω, 9, .inl f)
    | 38 => .inl (wI ω, 9, .inl f)
    | 39 => .inl (wI ω, 10, .inl f)
    | 40 => .inl (wI ω, 10, .inl f)
    | 41 => .inl (wI ω, 10, .inl f)
    | 42 => .inl (wI ω, 512, .inl f)
    | 43 => .inl (wI ω, 512, .inl f)
    | _ => .inl (wI ω, 512, .inl f)
def wl (ω : Wd) (σ : St) : va_W := (List.range 205).map (fun j => (wh ω j, ceJ ω j (σ j)))
theorem wl_get {ω : Wd} {σ : St} {q : Nat} (h : q < 205) : (wl ω σ)[q]? = some (wh ω q, ceJ ω q (σ q)) := by
  simp [wl, List.getElem?_map, List.getElem?_range h]
theorem wl_inv {ω : Wd} {σ : St} {q : Nat} {c : Nat × va_E} (h : (wl ω σ)[q]? = some c) : q < 205 ∧ c = (wh ω q, ceJ ω q (σ q)) := by
  by_cases hq : q < 205
  · rw [wl_get hq] at h
    exact ⟨hq, (Option.some.inj h).symm⟩
  · have hl : (wl ω σ).length = 205 := by simp [wl]
    rw [List.getElem?_eq_none (by rw [hl]; omega)] at h
    cases h
theorem wl_len {ω : Wd} {σ : St} : (wl ω σ).length = 205 := by simp [wl]
theorem sa_self {σ : St} {q : Nat} {f : Nat → Int32} : sa σ q f q = f := if_pos rfl
theorem sa_ne {σ : St} {q j : Nat} {f : Nat → Int32} (h : j ≠ q) : sa σ q f j = σ j := if_neg h
theorem wl_set {ω : Wd} {σ : St} {q : Nat} {f : Nat → Int32} (h : q < 205) : (wl ω σ).set q (wh ω q, ceJ ω q f) = wl ω (sa σ q f) := by
  apply List.ext_getElem?
  intro i
  by_cases hi : i < 205
  · rw [wl_get hi]
    by_cases hq : i = q
    · subst hq
      rw [List.getElem?_set_self (by rw [wl_len]; exact hi), sa_self]
    · rw [List.getElem?_set_ne (Ne.symm hq), wl_get hi, sa_ne hq]
  · rw [List.getElem?_eq_none (by rw [List.length_set, wl_len]; omega), List.getElem?_eq_none (by rw [wl_len]; omega)]
abbrev tyL (ω : Wd) : List (ClassId × FieldType) := [(wI ω, .int), (wZ ω, .boolean), (wG ω, .object "SkittleGentry$Gentry")]
def tROW (j : Nat) : Int32 := ([0, 1, 1, 2, 2, 2, 3, 3, 4] : List Int32).getD j 0
def tCOL (j : Nat) : Int32 := ([2, 1, 3, 0, 2, 4, 1, 3, 2] : List Int32).getD j 0
def tPLA (j : Nat) : Int32 := ([-1, -1, 0, -1, -1, -1, 1, -1, 2, -1, 3, -1, 4, -1, 5, -1, 6, -1, 7, -1, -1, -1, 8, -1, -1] : List Int32).getD j 0
/-- the static tables -/
def ST (ω : Wd) (U : State) (H : Heap) : Prop :=
  (va_Z RX7 "ROW_OF" "[I" (.ref (wR ω)) (wA ω) U H ∧ va_T .int (wR ω) 9 (fun j => .int (tROW j)) (wA ω) U H) ∧
  (va_Z RX7 "COLUMN_OF" "[I" (.ref (wC ω)) (wA ω) U H ∧ va_T .int (wC ω) 9 (fun j => .int (tCOL j)) (wA ω) U H) ∧
  (va_Z RX7 "PLATE_AT" "[I" (.ref (wP ω)) (wA ω) U H ∧ va_T .int (wP ω) 25 (fun j => .int (tPLA j)) (wA ω) U H)
theorem ST.kept {ω : Wd} {U : State} {H H1 : Heap} (h : ST ω U H) (hq : ∀ a : Nat, a < H.size → ¬ wA ω a → H1[a]? = H[a]?) : ST ω U H1 :=
  ⟨⟨h.1.1.kept hq, h.1.2.kept hq⟩, ⟨h.2.1.1.kept hq, h.2.1.2.kept hq⟩, ⟨h.2.2.1.kept hq, h.2.2.2.kept hq⟩⟩
theorem ST.moved {ω : Wd} {u U : State} {H : Heap} (hvm : u.vm.Alike U.vm) (h : ST ω u H) : ST ω U H :=
  ⟨⟨h.1.1.moved hvm, h.1.2.moved hvm⟩, ⟨h.2.1.1.moved hvm, h.2.1.2.moved hvm⟩, ⟨h.2.2.1.moved hvm, h.2.2.2.moved hvm⟩⟩
/-- what the tables say of the world -/
def WK (ω : Wd) (U : State) : Prop := va_K (wD ω) cls (tyL ω) U ∧ (∀ w ∈ nws, va_Nw w U) ∧ ST ω U U.heap
/-- the addresses -/
def WD (ω : Wd) : Prop := (∀ i j : Nat, i < 205 → j < 205 → wh ω i = wh ω j → i = j) ∧ ∀ j : Nat, j < 205 → wA ω (wh ω j)
theorem WD.D {ω : Wd} (h : WD ω) (σ : St) : va_D (wA ω) (wl ω σ) := by
  refine ⟨fun i j p q hp hq e => ?_, fun k q hk => ?_⟩
  · obtain ⟨h1, rfl⟩ := wl_inv hp
    obtain ⟨h2, rfl⟩ := wl_inv hq
    exact h.1 i j h1 h2 e
  · obtain ⟨h1, rfl⟩ := wl_inv hk
    exact h.2 k h1
theorem WK.warm {ω : Wd} {s U : State} {H : Heap} {locs : List Loc} (h : WK ω s) (hW : s.WarmedH U.vm) (hS : va_S (wA ω) s.heap H locs) (hH : U.heap = H) : WK ω U := by
  refine ⟨h.1.moved hW.alike, fun w hw => nw_warm hw hW (h.2.1 w hw), ?_⟩
  rw [hH]
  exact (h.2.2.moved hW.alike).kept hS.2.1
theorem WK.call {ω : Wd} {U : State} {g : JFrame} {mk : MethodId} {a : Array Value} (h : WK ω U) : WK ω (U.calling g mk a) :=
  ⟨va_K.moved (u := U) (U := U.calling g mk a) (Vm.Alike.refl U.vm) h.1, fun w hw => nw_same hw (s := U) (U := U.calling g mk a) rfl (h.2.1 w hw), ST.moved (u := U) (U := U.calling g mk a) (Vm.Alike.refl U.vm) h.2.2⟩
/-- where a method stands: the machine, its code, the tables, the world, its room -/
def Cx (x : Mx) (ω : Wd) (cc : ByteArray) (nL : Nat) (own : String) (ret : Option FieldType) (fr lo : Nat) : Prop :=
  x.1.tables.exec = Jvm.exec ∧ (xc x).code = cc ∧ (xc x).maxLocals = nL ∧ (xs x).vm.findClass own = some (xm x).cls ∧ (∀ w ∈ tb, w.before (xa x) (xs x) = true) ∧ (xM x).sig.returnType = ret ∧ (xM x).locks = false ∧ WK ω (xs x) ∧ WD ω ∧ fr ≤ (xR x).frames ∧ lo ≤ (xR x).locals ∧ xk x ≤ (xR x).cells ∧ xn x ≤ (xR x).slots
/-- from here, whatever heap holds the state, the machine comes to Q -/
def G (x : Mx) (ω : Wd) (nL : Nat) (Q : State → Prop) (σ : St) (pc : Nat) (lv : List (Nat × Value)) (st : List Value) : Prop :=
  ∀ (H : Heap) (locs : List Loc) (ls : Array Slot), va_P (wD ω) cls (wl ω σ) H → va_S (wA ω) (xs x).heap H locs → lv_has ls nL lv → W x.1 (xl x) x.2.2.1 (xR x) (xs x) (xm x) (xa x) (xb x) (xM x) (xc x) H locs (xk x) (xn x) Q (F0 (xm x) pc ls st)
section GL
variable {x : Mx} {ω : Wd} {cc : ByteArray} {nL : Nat} {own : String} {ret : Option FieldType} {fr lo : Nat} {Q : State → Prop} {σ : St} {pc : Nat} {lv : List (Nat × Value)} {st : List Value}
theorem G.sub {lv' : List (Nat × Value)} (ks : List Nat) (hl : lv_pick lv ks = lv') (k : G x ω nL Q σ pc lv' st) : G x ω nL Q σ pc lv st := fun H locs ls hP hS h => k H locs ls hP hS (lv_sub h ks hl)
theorem G.to {pc' : Nat} (h : pc = pc') (k : G x ω nL Q σ pc' lv st) : G x ω nL Q σ pc lv st := by subst h; exact k
theorem G.iconst (E : Cx x ω cc nL own ret fr lo) {n : Int} {v : Int32} (hd : decode cc pc = .ok (.iconst n, 1)) (hv : Int32.ofInt n = v) (k : G x ω nL Q σ (pc + 1) lv (.int v :: st)) : G x ω nL Q σ pc lv (st) := fun H locs ls hP hS h => lv_iconst E.1 E.2.1 hd hv (k H locs ls hP hS h)
theorem G.bipush (E : Cx x ω cc nL own ret fr lo) {n : Int} {v : Int32} (hd : decode cc pc = .ok (.bipush n, 2)) (hv : (Int8.ofInt n).toInt32 = v) (k : G x ω nL Q σ (pc + 2) lv (.int v :: st)) : G x ω nL Q σ pc lv (st) := fun H locs ls hP hS h => lv_bipush E.1 E.2.1 hd hv (k H locs ls hP hS h)
theorem G.sipush (E : Cx x ω cc nL own ret fr lo) {n : Int} {v : Int32} (hd : decode cc pc = .ok (.sipush n, 3)) (hv : (Int16.ofInt n).toInt32 = v) (k : G x ω nL Q σ (pc + 3) lv (.int v :: st)) : G x ω nL Q σ pc lv (st) := fun H locs ls hP hS h => lv_sipush E.1 E.2.1 hd hv (k H locs ls hP hS h)
theorem G.iadd (E : Cx x ω cc nL own ret fr lo) {a b : Int32} (hd : decode cc pc = .ok (.iadd, 1)) (k : G x ω nL Q σ (pc + 1) lv (.int (a + b) :: st)) : G x ω nL Q σ pc lv (.int b :: .int a :: st) := fun H locs ls hP hS h => lv_iadd E.1 E.2.1 hd (k H locs ls hP hS h)
theorem G.isub (E : Cx x ω cc nL own ret fr lo) {a b : Int32} (hd : decode cc pc = .ok (.isub, 1)) (k : G x ω nL Q σ (pc + 1) lv (.int (a - b) :: st)) : G x ω nL Q σ pc lv (.int b :: .int a :: st) := fun H locs ls hP hS h => lv_isub E.1 E.2.1 hd (k H locs ls hP hS h)
theorem G.imul (E : Cx x ω cc nL own ret fr lo) {a b : Int32} (hd : decode cc pc = .ok (.imul, 1)) (k : G x ω nL Q σ (pc + 1) lv (.int (a * b) :: st)) : G x ω nL Q σ pc lv (.int b :: .int a :: st) := fun H locs ls hP hS h => lv_imul E.1 E.2.1 hd (k H locs ls hP hS h)
theorem G.iand (E : Cx x ω cc nL own ret fr lo) {a b : Int32} (hd : decode cc pc = .ok (.iand, 1)) (k : G x ω nL Q σ (pc + 1) lv (.int (a &&& b) :: st)) : G x ω nL Q σ pc lv (.int b :: .int a :: st) := fun H locs ls hP hS h => lv_iand E.1 E.2.1 hd (k H locs ls hP hS h)
theorem G.ior (E : Cx x ω cc nL own ret fr lo) {a b : Int32} (hd : decode cc pc = .ok (.ior, 1)) (k : G x ω nL Q σ (pc + 1) lv (.int (a ||| b) :: st)) : G x ω nL Q σ pc lv (.int b :: .int a :: st) := fun H locs ls hP hS h => lv_ior E.1 E.2.1 hd (k H locs ls hP hS h)
theorem G.ixor (E : Cx x ω cc nL own ret fr lo) {a b : Int32} (hd : decode cc pc = .ok (.ixor, 1)) (k : G x ω nL Q σ (pc + 1) lv (.int (a ^^^ b) :: st)) : G x ω nL Q σ pc lv (.int b :: .int a :: st) := fun H locs ls hP hS h => lv_ixor E.1 E.2.1 hd (k H locs ls hP hS h)
theorem G.idiv (E : Cx x ω cc nL own ret fr lo) {a b : Int32} (hd : decode cc pc = .ok (.idiv, 1)) (hz : ¬ b = 0) (k : G x ω nL Q σ (pc + 1) lv (.int (a / b) :: st)) : G x ω nL Q σ pc lv (.int b :: .int a :: st) := fun H locs ls hP hS h => lv_idiv E.1 E.2.1 hd hz (k H locs ls hP hS h)
theorem G.irem (E : Cx x ω cc nL own ret fr lo) {a b : Int32} (hd : decode cc pc = .ok (.irem, 1)) (hz : ¬ b = 0) (k : G x ω nL Q σ (pc + 1) lv (.int (a - a / b * b) :: st)) : G x ω nL Q σ pc lv (.int b :: .int a :: st) := fun H locs ls hP hS h => lv_irem E.1 E.2.1 hd hz (k H locs ls hP hS h)
theorem G.ladd (E : Cx x ω cc nL own ret fr lo) {a b : Int64} (hd : decode cc pc = .ok (.ladd, 1)) (k : G x ω nL Q σ (pc + 1) lv (.long (a + b) :: st)) : G x ω nL Q σ pc lv (.long b :: .long a :: st) := fun H locs ls hP hS h => lv_ladd E.1 E.2.1 hd (k H locs ls hP hS h)
theorem G.lmul (E : Cx x ω cc nL own ret fr lo) {a b : Int64} (hd : decode cc pc = .ok (.lmul, 1)) (k : G x ω nL Q σ (pc + 1) lv (.long (a * b) :: st)) : G x ω nL Q σ pc lv (.long b :: .long a :: st) := fun H locs ls hP hS h => lv_lmul E.1 E.2.1 hd (k H locs ls hP hS h)
theorem G.land (E : Cx x ω cc nL own ret fr lo) {a b : Int64} (hd : decode cc pc = .ok (.land, 1)) (k : G x ω nL Q σ (pc + 1) lv (.long (a &&& b) :: st)) : G x ω nL Q σ pc lv (.long b :: .long a :: st) := fun H locs ls hP hS h => lv_land E.1 E.2.1 hd (k H locs ls hP hS h)
theorem G.ldiv (E : Cx x ω cc nL own ret fr lo) {a b : Int64} (hd : decode cc pc = .ok (.ldiv, 1)) (hz : ¬ b = 0) (k : G x ω nL Q σ (pc + 1) lv (.long (a / b) :: st)) : G x ω nL Q σ pc lv (.long b :: .long a :: st) := fun H locs ls hP hS h => lv_ldiv E.1 E.2.1 hd hz (k H locs ls hP hS h)
theorem G.lrem (E : Cx x ω cc nL own ret fr lo) {a b : Int64} (hd : decode cc pc = .ok (.lrem, 1)) (hz : ¬ b = 0) (k : G x ω nL Q σ (pc + 1) lv (.long (a - a / b * b) :: st)) : G x ω nL Q σ pc lv (.long b :: .long a :: st) := fun H locs ls hP hS h => lv_lrem E.1 E.2.1 hd hz (k H locs ls hP hS h)
theorem G.i2l (E : Cx x ω cc nL own ret fr lo) {a : Int32} (hd : decode cc pc = .ok (.i2l, 1)) (k : G x ω nL Q σ (pc + 1) lv (.long a.toInt64 :: st)) : G x ω nL Q σ pc lv (.int a :: st) := fun H locs ls hP hS h => lv_i2l E.1 E.2.1 hd rfl (k H locs ls hP hS h)
theorem G.l2i (E : Cx x ω cc nL own ret fr lo) {a : Int64} (hd : decode cc pc = .ok (.l2i, 1)) (k : G x ω nL Q σ (pc + 1) lv (.int a.toInt32 :: st)) : G x ω nL Q σ pc lv (.long a :: st) := fun H locs ls hP hS h => lv_l2i E.1 E.2.1 hd rfl (k H locs ls hP hS h)
theorem G.iushr (E : Cx x ω cc nL own ret fr lo) {a b : Int32} (hd : decode cc pc = .ok (.iushr, 1)) (k : G x ω nL Q σ (pc + 1) lv (.int (a.toUInt32 >>> (b.toUInt32 &&& Int32.toUInt32 31)).toInt32 :: st)) : G x ω nL Q σ pc lv (.int b :: .int a :: st) := fun H locs ls hP hS h => lv_iushr E.1 E.2.1 hd rfl (k H locs ls hP hS h)
theorem G.dup (E : Cx x ω cc nL own ret fr lo) {v : Value} (hd : decode cc pc = .ok (.dup, 1)) (hc : v.category = 1) (k : G x ω nL Q σ (pc + 1) lv (v :: v :: st)) : G x ω nL Q σ pc lv (v :: st) := fun H locs ls hP hS h => lv_dup E.1 E.2.1 hd hc (k H locs ls hP hS h)
theorem G.pop (E : Cx x ω cc nL own ret fr lo) {v : Value} (hd : decode cc pc = .ok (.pop, 1)) (hc : v.category = 1) (k : G x ω nL Q σ (pc + 1) lv (st)) : G x ω nL Q σ pc lv (v :: st) := fun H locs ls hP hS h => lv_pop E.1 E.2.1 hd hc (k H locs ls hP hS h)
theorem G.dup2 (E : Cx x ω cc nL own ret fr lo) {v w : Value} (hd : decode cc pc = .ok (.dup2, 1)) (hc : v.category = 1) (hc2 : w.category = 1) (k : G x ω nL Q σ (pc + 1) lv (v :: w :: v :: w :: st)) : G x ω nL Q σ pc lv (v :: w :: st) := fun H locs ls hP hS h => lv_dup2_11 E.1 E.2.1 hd hc hc2 (k H locs ls hP hS h)
theorem G.ishl (E : Cx x ω cc nL own ret fr lo) {a b : Int32} (hd : decode cc pc = .ok (.ishl, 1)) (k : G x ω nL Q σ (pc + 1) lv (.int (a <<< (b &&& 31)) :: st)) : G x ω nL Q σ pc lv (.int b :: .int a :: st) := fun H locs ls hP hS h => lv_ishl E.1 E.2.1 hd (k H locs ls hP hS h)
theorem G.ishr (E : Cx x ω cc nL own ret fr lo) {a b : Int32} (hd : decode cc pc = .ok (.ishr, 1)) (k : G x ω nL Q σ (pc + 1) lv (.int (a >>> (b &&& 31)) :: st)) : G x ω nL Q σ pc lv (.int b :: .int a :: st) := fun H locs ls hP hS h => lv_ishr E.1 E.2.1 hd (k H locs ls hP hS h)
theorem G.ldc (E : Cx x ω cc nL own ret fr lo) {i : Nat} {v : Int32} (hm : Cond.constant own i v ∈ tb) (hd : decode cc pc = .ok (.ldc i, 2)) (k : G x ω nL Q σ (pc + 2) lv (.int v :: st)) : G x ω nL Q σ pc lv st := fun H locs ls hP hS h => lv_ldc E.1 E.2.1 E.2.2.2.1 (E.2.2.2.2.1 _ hm) hd (k H locs ls hP hS h)
theorem G.ldcw (E : Cx x ω cc nL own ret fr lo) {i : Nat} {v : Int32} (hm : Cond.constant own i v ∈ tb) (hd : decode cc pc = .ok (.ldc_w i, 3)) (k : G x ω nL Q σ (pc + 3) lv (.int v :: st)) : G x ω nL Q σ pc lv st := fun H locs ls hP hS h => lv_ldcw E.1 E.2.1 E.2.2.2.1 (E.2.2.2.2.1 _ hm) hd (k H locs ls hP hS h)
theorem G.ldc2 (E : Cx x ω cc nL own ret fr lo) {i : Nat} {v : Int64} (hm : Cond.constantLong own i v ∈ tb) (hd : decode cc pc = .ok (.ldc2_w i, 3)) (k : G x ω nL Q σ (pc + 3) lv (.long v :: st)) : G x ω nL Q σ pc lv st := fun H locs ls hP hS h => lv_ldc2 E.1 E.2.1 E.2.2.2.1 (E.2.2.2.2.1 _ hm) hd (k H locs ls hP hS h)
theorem G.iload_n (E : Cx x ω cc nL own ret fr lo) {j : Fin 4} {i : Nat} {v : Int32} (hd : decode cc pc = .ok (.iload_n j, 1)) (hi : (j : Nat) = i) (k0 : Nat) (hk : lv[k0]? = some (i, .int v)) (k : G x ω nL Q σ (pc + 1) lv (.int v :: st)) : G x ω nL Q σ pc lv st := fun H locs ls hP hS h => lv_iload_n E.1 E.2.1 hd hi (lv_at h k0 hk) (k H locs ls hP hS h)
theorem G.iload (E : Cx x ω cc nL own ret fr lo) {i : Nat} {v : Int32} (hd : decode cc pc = .ok (.iload i, 2)) (k0 : Nat) (hk : lv[k0]? = some (i, .int v)) (k : G x ω nL Q σ (pc + 2) lv (.int v :: st)) : G x ω nL Q σ pc lv st := fun H locs ls hP hS h => lv_iload E.1 E.2.1 hd (lv_at h k0 hk) (k H locs ls hP hS h)
theorem G.lload_n (E : Cx x ω cc nL own ret fr lo) {j : Fin 4} {i : Nat} {v : Int64} (hd : decode cc pc = .ok (.lload_n j, 1)) (hi : (j : Nat) = i) (k0 : Nat) (hk : lv[k0]? = some (i, .long v)) (k : G x ω nL Q σ (pc + 1) lv (.long v :: st)) : G x ω nL Q σ pc lv st := fun H locs ls hP hS h => lv_lload_n E.1 E.2.1 hd hi (lv_at h k0 hk) (k H locs ls hP hS h)
theorem G.lload (E : Cx x ω cc nL own ret fr lo) {i : Nat} {v : Int64} (hd : decode cc pc = .ok (.lload i, 2)) (k0 : Nat) (hk : lv[k0]? = some (i, .long v)) (k : G x ω nL Q σ (pc + 2) lv (.long v :: st)) : G x ω nL Q σ pc lv st := fun H locs ls hP hS h => lv_lload E.1 E.2.1 hd (lv_at h k0 hk) (k H locs ls hP hS h)
theorem G.aload_n (E : Cx x ω cc nL own ret fr lo) {j : Fin 4} {i : Nat} {v : Nat} (hd : decode cc pc = .ok (.aload_n j, 1)) (hi : (j : Nat) = i) (k0 : Nat) (hk : lv[k0]? = some (i, .ref v)) (k : G x ω nL Q σ (pc + 1) lv (.ref v :: st)) : G x ω nL Q σ pc lv st := fun H locs ls hP hS h => lv_aload_n E.1 E.2.1 hd hi (lv_at h k0 hk) (k H locs ls hP hS h)
theorem G.aload (E : Cx x ω cc nL own ret fr lo) {i : Nat} {v : Nat} (hd : decode cc pc = .ok (.aload i, 2)) (k0 : Nat) (hk : lv[k0]? = some (i, .ref v)) (k : G x ω nL Q σ (pc + 2) lv (.ref v :: st)) : G x ω nL Q σ pc lv st := fun H locs ls hP hS h => lv_aload E.1 E.2.1 hd (lv_at h k0 hk) (k H locs ls hP hS h)
theorem G.istore_n (E : Cx x ω cc nL own ret fr lo) {j : Fin 4} {i : Nat} {v : Int32} {lv' : List (Nat × Value)} (hd : decode cc pc = .ok (.istore_n j, 1)) (hi : (j : Nat) = i) (hn : i < nL) (hl : (i, Value.int v) :: lv.filter (fun q => !(q.1 == i) && !(q.1 + 1 == i && q.2.category == 2)) = lv') (k : G x ω nL Q σ (pc + 1) lv' st) : G x ω nL Q σ pc lv (.int v :: st) := fun H locs ls hP hS h => lv_istore_n E.1 E.2.1 hd hi h hn hl (fun ls2 h2 => k H locs ls2 hP hS h2)
theorem G.istore (E : Cx x ω cc nL own ret fr lo) {i : Nat} {v : Int32} {lv' : List (Nat × Value)} (hd : decode cc pc = .ok (.istore i, 2)) (hn : i < nL) (hl : (i, Value.int v) :: lv.filter (fun q => !(q.1 == i) && !(q.1 + 1 == i && q.2.category == 2)) = lv') (k : G x ω nL Q σ (pc + 2) lv' st) : G x ω nL Q σ pc lv (.int v :: st) := fun H locs ls hP hS h => lv_istore E.1 E.2.1 hd h hn hl (fun ls2 h2 => k H locs ls2 hP hS h2)
theorem G.lstore_n (E : Cx x ω cc nL own ret fr lo) {j : Fin 4} {i : Nat} {v : Int64} {lv' : List (Nat × Value)} (hd : decode cc pc = .ok (.lstore_n j, 1)) (hi : (j : Nat) = i) (hn : i + 1 < nL) (hl : (i, Value.long v) :: lv.filter (fun q => !(q.1 == i) && (!(q.1 == i + 1) && !(q.1 + 1 == i && q.2.category == 2))) = lv') (k : G x ω nL Q σ (pc + 1) lv' st) : G x ω nL Q σ pc lv (.long v :: st) := fun H locs ls hP hS h => lv_lstore_n E.1 E.2.1 hd hi h hn hl (fun ls2 h2 => k H locs ls2 hP hS h2)
theorem G.lstore (E : Cx x ω cc nL own ret fr lo) {i : Nat} {v : Int64} {lv' : List (Nat × Value)} (hd : decode cc pc = .ok (.lstore i, 2)) (hn : i + 1 < nL) (hl : (i, Value.long v) :: lv.filter (fun q => !(q.1 == i) && (!(q.1 == i + 1) && !(q.1 + 1 == i && q.2.category == 2))) = lv') (k : G x ω nL Q σ (pc + 2) lv' st) : G x ω nL Q σ pc lv (.long v :: st) := fun H locs ls hP hS h => lv_lstore E.1 E.2.1 hd h hn hl (fun ls2 h2 => k H locs ls2 hP hS h2)
theorem G.iinc (E : Cx x ω cc nL own ret fr lo) {i : Nat} {n : Int} {v w : Int32} {lv' : List (Nat × Value)} (hd : decode cc pc = .ok (.iinc i n, 3)) (k0 : Nat) (hk : lv[k0]? = some (i, .int v)) (hv : v + Int32.ofInt n = w) (hn : i < nL) (hl : (i, Value.int w) :: lv.filter (fun q => !(q.1 == i) && !(q.1 + 1 == i && q.2.category == 2)) = lv') (k : G x ω nL Q σ (pc + 3) lv' st) : G x ω nL Q σ pc lv st := fun H locs ls hP hS h => lv_iinc E.1 E.2.1 hd h hk hv hn hl (fun ls2 h2 => k H locs ls2 hP hS h2)
theorem G.if_eq (E : Cx x ω cc nL own ret fr lo) {a : Int32} {off : Int} {tgt : Nat} (hd : decode cc pc = .ok (.ifCond .eq off, 3)) (ht : (pc : Int) + off = (tgt : Int)) (kt : a = 0 → G x ω nL Q σ tgt lv st) (kf : ¬ a = 0 → G x ω nL Q σ (pc + 3) lv st) : G x ω nL Q σ pc lv (.int a :: st) := fun H locs ls hP hS h => lv_if_eq E.1 E.2.1 hd ht (fun q => kt q H locs ls hP hS h) (fun q => kf q H locs ls hP hS h)
theorem G.icmp_eq (E : Cx x ω cc nL own ret fr lo) {a b : Int32} {off : Int} {tgt : Nat} (hd : decode cc pc = .ok (.if_icmp .eq off, 3)) (ht : (pc : Int) + off = (tgt : Int)) (kt : a = b → G x ω nL Q σ tgt lv st) (kf : ¬ a = b → G x ω nL Q σ (pc + 3) lv st) : G x ω nL Q σ pc lv (.int b :: .int a :: st) := fun H locs ls hP hS h => lv_icmp_eq E.1 E.2.1 hd ht (fun q => kt q H locs ls hP hS h) (fun q => kf q H locs ls hP hS h)
theorem G.if_ne (E : Cx x ω cc nL own ret fr lo) {a : Int32} {off : Int} {tgt : Nat} (hd : decode cc pc = .ok (.ifCond .ne off, 3)) (ht : (pc : Int) + off = (tgt : Int)) (kt : ¬ a = 0 → G x ω nL Q σ tgt lv st) (kf : a = 0 → G x ω nL Q σ (pc + 3) lv st) : G x ω nL Q σ pc lv (.int a :: st) := fun H locs ls hP hS h => lv_if_ne E.1 E.2.1 hd ht (fun q => kt q H locs ls hP hS h) (fun q => kf q H locs ls hP hS h)
theorem G.icmp_ne (E : Cx x ω cc nL own ret fr lo) {a b : Int32} {off : Int} {tgt : Nat} (hd : decode cc pc = .ok (.if_icmp .ne off, 3)) (ht : (pc : Int) + off = (tgt : Int)) (kt : ¬ a = b → G x ω nL Q σ tgt lv st) (kf : a = b → G x ω nL Q σ (pc + 3) lv st) : G x ω nL Q σ pc lv (.int b :: .int a :: st) := fun H locs ls hP hS h => lv_icmp_ne E.1 E.2.1 hd ht (fun q => kt q H locs ls hP hS h) (fun q => kf q H locs ls hP hS h)
theorem G.if_lt (E : Cx x ω cc nL own ret fr lo) {a : Int32} {off : Int} {tgt : Nat} (hd : decode cc pc = .ok (.ifCond .lt off, 3)) (ht : (pc : Int) + off = (tgt : Int)) (kt : a < 0 → G x ω nL Q σ tgt lv st) (kf : ¬ a < 0 → G x ω nL Q σ (pc + 3) lv st) : G x ω nL Q σ pc lv (.int a :: st) := fun H locs ls hP hS h => lv_if_lt E.1 E.2.1 hd ht (fun q => kt q H locs ls hP hS h) (fun q => kf q H locs ls hP hS h)
theorem G.icmp_lt (E : Cx x ω cc nL own ret fr lo) {a b : Int32} {off : Int} {tgt : Nat} (hd : decode cc pc = .ok (.if_icmp .lt off, 3)) (ht : (pc : Int) + off = (tgt : Int)) (kt : a < b → G x ω nL Q σ tgt lv st) (kf : ¬ a < b → G x ω nL Q σ (pc + 3) lv st) : G x ω nL Q σ pc lv (.int b :: .int a :: st) := fun H locs ls hP hS h => lv_icmp_lt E.1 E.2.1 hd ht (fun q => kt q H locs ls hP hS h) (fun q => kf q H locs ls hP hS h)
theorem G.if_ge (E : Cx x ω cc nL own ret fr lo) {a : Int32} {off : Int} {tgt : Nat} (hd : decode cc pc = .ok (.ifCond .ge off, 3)) (ht : (pc : Int) + off = (tgt : Int)) (kt : 0 ≤ a → G x ω nL Q σ tgt lv st) (kf : ¬ 0 ≤ a → G x ω nL Q σ (pc + 3) lv st) : G x ω nL Q σ pc lv (.int a :: st) := fun H locs ls hP hS h => lv_if_ge E.1 E.2.1 hd ht (fun q => kt q H locs ls hP hS h) (fun q => kf q H locs ls hP hS h)
theorem G.icmp_ge (E : Cx x ω cc nL own ret fr lo) {a b : Int32} {off : Int} {tgt : Nat} (hd : decode cc pc = .ok (.if_icmp .ge off, 3)) (ht : (pc : Int) + off = (tgt : Int)) (kt : b ≤ a → G x ω nL Q σ tgt lv st) (kf : ¬ b ≤ a → G x ω nL Q σ (pc + 3) lv st) : G x ω nL Q σ pc lv (.int b :: .int a :: st) := fun H locs ls hP hS h => lv_icmp_ge E.1 E.2.1 hd ht (fun q => kt q H locs ls hP hS h) (fun q => kf q H locs ls hP hS h)
theorem G.if_gt (E : Cx x ω cc nL own ret fr lo) {a : Int32} {off : Int} {tgt : Nat} (hd : decode cc pc = .ok (.ifCond .gt off, 3)) (ht : (pc : Int) + off = (tgt : Int)) (kt : 0 < a → G x ω nL Q σ tgt lv st) (kf : ¬ 0 < a → G x ω nL Q σ (pc + 3) lv st) : G x ω nL Q σ pc lv (.int a :: st) := fun H locs ls hP hS h => lv_if_gt E.1 E.2.1 hd ht (fun q => kt q H locs ls hP hS h) (fun q => kf q H locs ls hP hS h)
theorem G.icmp_gt (E : Cx x ω cc nL own ret fr lo) {a b : Int32} {off : Int} {tgt : Nat} (hd : decode cc pc = .ok (.if_icmp .gt off, 3)) (ht : (pc : Int) + off = (tgt : Int)) (kt : b < a → G x ω nL Q σ tgt lv st) (kf : ¬ b < a → G x ω nL Q σ (pc + 3) lv st) : G x ω nL Q σ pc lv (.int b :: .int a :: st) := fun H locs ls hP hS h => lv_icmp_gt E.1 E.2.1 hd ht (fun q => kt q H locs ls hP hS h) (fun q => kf q H locs ls hP hS h)
theorem G.if_le (E : Cx x ω cc nL own ret fr lo) {a : Int32} {off : Int} {tgt : Nat} (hd : decode cc pc = .ok (.ifCond .le off, 3)) (ht : (pc : Int) + off = (tgt : Int)) (kt : a ≤ 0 → G x ω nL Q σ tgt lv st) (kf : ¬ a ≤ 0 → G x ω nL Q σ (pc + 3) lv st) : G x ω nL Q σ pc lv (.int a :: st) := fun H locs ls hP hS h => lv_if_le E.1 E.2.1 hd ht (fun q => kt q H locs ls hP hS h) (fun q => kf q H locs ls hP hS h)
theorem G.icmp_le (E : Cx x ω cc nL own ret fr lo) {a b : Int32} {off : Int} {tgt : Nat} (hd : decode cc pc = .ok (.if_icmp .le off, 3)) (ht : (pc : Int) + off = (tgt : Int)) (kt : a ≤ b → G x ω nL Q σ tgt lv st) (kf : ¬ a ≤ b → G x ω nL Q σ (pc + 3) lv st) : G x ω nL Q σ pc lv (.int b :: .int a :: st) := fun H locs ls hP hS h => lv_icmp_le E.1 E.2.1 hd ht (fun q => kt q H locs ls hP hS h) (fun q => kf q H locs ls hP hS h)
theorem G.goto (E : Cx x ω cc nL own ret fr lo) {off : Int} {tgt : Nat} (hd : decode cc pc = .ok (.goto off, 3)) (ht : (pc : Int) + off = (tgt : Int)) (k : G x ω nL Q σ tgt lv st) : G x ω nL Q σ pc lv st := fun H locs ls hP hS h => lv_goto E.1 E.2.1 hd ht (k H locs ls hP hS h)
theorem G.tabOut (E : Cx x ω cc nL own ret fr lo) {dflt lo' hi : Int} {offs : Array Int} {len : Nat} {a : Int32} {tgt : Nat} (hd : decode cc pc = .ok (.tableswitch dflt lo' hi offs, len)) (h0 : a.toInt < lo' ∨ hi < a.toInt) (ht : (pc : Int) + dflt = (tgt : Int)) (k : G x ω nL Q σ tgt lv st) : G x ω nL Q σ pc lv (.int a :: st) := fun H locs ls hP hS h => lv_tableOut E.1 E.2.1 hd h0 ht (k H locs ls hP hS h)
theorem G.tabIn (E : Cx x ω cc nL own ret fr lo) {dflt lo' hi : Int} {offs : Array Int} {len : Nat} {a : Int32} {off : Int} {tgt : Nat} (hd : decode cc pc = .ok (.tableswitch dflt lo' hi offs, len)) (h1 : ¬ a.toInt < lo') (h2 : ¬ hi < a.toInt) (ho : offs[(a.toInt - lo').toNat]? = some off) (ht : (pc : Int) + off = (tgt : Int)) (k : G x ω nL Q σ tgt lv st) : G x ω nL Q σ pc lv (.int a :: st) := fun H locs ls hP hS h => lv_tableIn E.1 E.2.1 hd h1 h2 ho ht (k H locs ls hP hS h)
/-- cell q is an object of a class of ours -/
def Ob (ω : Wd) (q ci : Nat) (C : String) (T : u_T) (N : Nat) (fs : (Nat → Int32) → List Value) : Prop := q < 205 ∧ (∀ f, ceJ ω q f = .inr (ci, fs f)) ∧ cls[ci]? = some (C, T, N) ∧ (∀ w ∈ u_ws C T N, w ∈ tb)
theorem G.get (E : Cx x ω cc nL own ret fr lo) {q ci N : Nat} {C : String} {T : u_T} {fs : (Nat → Int32) → List Value} (O : Ob ω q ci C T N fs) (k0 : Nat) (hk : k0 < N) {idx : Nat} (hm : Cond.fieldLink own idx (T k0).1 (T k0).2.1 (T k0).2.2.1 ∈ tb) {v : Value} (hv : (fs (σ q))[k0]? = some v) (hd : decode cc pc = .ok (.getfield idx, 3)) (k : G x ω nL Q σ (pc + 3) lv (v :: st)) : G x ω nL Q σ pc lv (.ref (wh ω q) :: st) := fun H locs ls hP hS h =>
  va_get E.1 E.2.1 E.2.2.2.2.1 O.2.2.2 E.2.2.2.1 E.2.2.2.2.2.2.2.1.1 hP q (by rw [wl_get O.1, O.2.1]) O.2.2.1 k0 hk (E.2.2.2.2.1 _ hm) (fun _ h9 => h9) hv hd (k H locs ls hP hS h)
theorem G.getN (E : Cx x ω cc nL own ret fr lo) {q ci N : Nat} {C host : String} {T : u_T} {fs : (Nat → Int32) → List Value} (O : Ob ω q ci C T N fs) (k0 : Nat) (hk : k0 < N) {idx : Nat} (hm : Cond.fieldLinkNest own idx (T k0).1 (T k0).2.1 (T k0).2.2.1 host ∈ nws) {v : Value} (hv : (fs (σ q))[k0]? = some v) (hd : decode cc pc = .ok (.getfield idx, 3)) (k : G x ω nL Q σ (pc + 3) lv (v :: st)) : G x ω nL Q σ pc lv (.ref (wh ω q) :: st) := fun H locs ls hP hS h =>
  va_getN E.1 E.2.1 E.2.2.2.2.1 O.2.2.2 E.2.2.2.1 E.2.2.2.2.2.2.2.1.1 hP q (by rw [wl_get O.1, O.2.1]) O.2.2.1 k0 hk (va_Nw.use rfl (E.2.2.2.2.2.2.2.1.2.1 _ hm)) (fun _ h9 => h9) hv hd (k H locs ls hP hS h)
/-- ... and its number fields may be written -/
def Obw (T : u_T) (N : Nat) (ty : Nat → FieldType) (fs : (Nat → Int32) → List Value) : Prop := (∀ k, k < N → parseFieldDescriptor (T k).2.2.1 = some (ty k)) ∧ (∀ a, a < N → ∀ b, b < N → a ≠ b → (T a).2.1 ≠ (T b).2.1) ∧ ∀ f, (fs f).length = N
theorem G.put (E : Cx x ω cc nL own ret fr lo) {q ci N : Nat} {C : String} {T : u_T} {fs : (Nat → Int32) → List Value} {ty0 : Nat → FieldType} (O : Ob ω q ci C T N fs) (O2 : Obw T N ty0 fs) (k0 : Nat) (hk : k0 < N) {idx : Nat} (hm : Cond.fieldLink own idx (T k0).1 (T k0).2.1 (T k0).2.2.1 ∈ tb) (hfin : (T k0).2.2.2 = false) {v : Int32} (hn : narrow (ty0 k0) (.int v) = .int v) (hfit : fits (ty0 k0) (.int v) = true) (hset : (fs (σ q)).set k0 (.int v) = fs (upd (σ q) k0 v)) (hd : decode cc pc = .ok (.putfield idx, 3)) (k : G x ω nL Q (su σ q k0 v) (pc + 3) lv st) : G x ω nL Q σ pc lv (.int v :: .ref (wh ω q) :: st) := fun H locs ls hP hS h =>
  va_put E.1 E.2.1 E.2.2.2.2.1 O.2.2.2 ty0 O2.1 O2.2.1 E.2.2.2.1 E.2.2.2.2.2.2.2.1.1 hP (E.2.2.2.2.2.2.2.2.1.D σ) hS q (fs := fs (σ q)) (by rw [wl_get O.1, O.2.1]) O.2.2.1 k0 hk (E.2.2.2.2.1 _ hm) (fun _ h9 => h9) hfin (O2.1 k0 hk) hn hfit (by rw [O2.2.2]; exact hk) hd (fun H1 l1 hP1 _ hS1 => k H1 l1 ls (by
    rw [hset, ← O.2.1 (upd (σ q) k0 v), wl_set O.1] at hP1
    exact hP1) hS1 h)
theorem G.putN (E : Cx x ω cc nL own ret fr lo) {q ci N : Nat} {C host : String} {T : u_T} {fs : (Nat → Int32) → List Value} {ty0 : Nat → FieldType} (O : Ob ω q ci C T N fs) (O2 : Obw T N ty0 fs) (k0 : Nat) (hk : k0 < N) {idx : Nat} (hm : Cond.fieldLinkNest own idx (T k0).1 (T k0).2.1 (T k0).2.2.1 host ∈ nws) (hfin : (T k0).2.2.2 = false) {v : Int32} (hn : narrow (ty0 k0) (.int v) = .int v) (hfit : fits (ty0 k0) (.int v) = true) (hset : (fs (σ q)).set k0 (.int v) = fs (upd (σ q) k0 v)) (hd : decode cc pc = .ok (.putfield idx, 3)) (k : G x ω nL Q (su σ q k0 v) (pc + 3) lv st) : G x ω nL Q σ pc lv (.int v :: .ref (wh ω q) :: st) := fun H locs ls hP hS h =>
  va_putN E.1 E.2.1 E.2.2.2.2.1 O.2.2.2 ty0 O2.1 O2.2.1 E.2.2.2.1 E.2.2.2.2.2.2.2.1.1 hP (E.2.2.2.2.2.2.2.2.1.D σ) hS q (fs := fs (σ q)) (by rw [wl_get O.1, O.2.1]) O.2.2.1 k0 hk (va_Nw.use rfl (E.2.2.2.2.2.2.2.1.2.1 _ hm)) (fun _ h9 => h9) hfin (O2.1 k0 hk) hn hfit (by rw [O2.2.2]; exact hk) hd (fun H1 l1 hP1 _ hS1 => k H1 l1 ls (by
    rw [hset, ← O.2.1 (upd (σ q) k0 v), wl_set O.1] at hP1
    exact hP1) hS1 h)
/-- cell q is a row of n ints (booleans) -/
def isI (q n : Nat) : Prop := q < 205 ∧ ∀ (ω : Wd) (f : Nat → Int32), ceJ ω q f = .inl (wI ω, n, .inl f)
def isZ (q n : Nat) : Prop := q < 205 ∧ ∀ (ω : Wd) (f : Nat → Int32), ceJ ω q f = .inl (wZ ω, n, .inl f)
theorem G.iald (E : Cx x ω cc nL own ret fr lo) {q n : Nat} (O : isI q n) {i : Int32} (hi : vp_in i n) (hd : decode cc pc = .ok (.iaload, 1)) (k : G x ω nL Q σ (pc + 1) lv (.int (σ q i.toNatClampNeg) :: st)) : G x ω nL Q σ pc lv (.int i :: .ref (wh ω q) :: st) := fun H locs ls hP hS h =>
  va_iald E.1 E.2.1 E.2.2.2.2.2.2.2.1.1 hP q 0 (f := σ q) (by rw [wl_get O.1, O.2]) rfl hi hd (k H locs ls hP hS h)
theorem G.zald (E : Cx x ω cc nL own ret fr lo) {q n : Nat} (O : isZ q n) {i : Int32} (hi : vp_in i n) (hd : decode cc pc = .ok (.baload, 1)) (k : G x ω nL Q σ (pc + 1) lv (.int (σ q i.toNatClampNeg) :: st)) : G x ω nL Q σ pc lv (.int i :: .ref (wh ω q) :: st) := fun H locs ls hP hS h =>
  va_zald E.1 E.2.1 E.2.2.2.2.2.2.2.1.1 hP q 1 (f := σ q) (by rw [wl_get O.1, O.2]) rfl hi hd (k H locs ls hP hS h)
theorem G.iast (E : Cx x ω cc nL own ret fr lo) {q n : Nat} (O : isI q n) {i v : Int32} (hi : vp_in i n) (hd : decode cc pc = .ok (.iastore, 1)) (k : G x ω nL Q (su σ q i.toNatClampNeg v) (pc + 1) lv st) : G x ω nL Q σ pc lv (.int v :: .int i :: .ref (wh ω q) :: st) := fun H locs ls hP hS h =>
  va_iast E.1 E.2.1 E.2.2.2.2.2.2.2.1.1 hP (E.2.2.2.2.2.2.2.2.1.D σ) hS q 0 (f := σ q) (by rw [wl_get O.1, O.2]) rfl hi hd (fun H1 l1 hP1 _ hS1 => k H1 l1 ls (by
    rw [← O.2 ω (upd (σ q) i.toNatClampNeg v), wl_set O.1] at hP1
    exact hP1) hS1 h)
theorem G.zast (E : Cx x ω cc nL own ret fr lo) {q n : Nat} (O : isZ q n) {i v : Int32} (hi : vp_in i n) (hd : decode cc pc = .ok (.bastore, 1)) (k : G x ω nL Q (su σ q i.toNatClampNeg (vp_nar .boolean v)) (pc + 1) lv st) : G x ω nL Q σ pc lv (.int v :: .int i :: .ref (wh ω q) :: st) := fun H locs ls hP hS h =>
  va_zast E.1 E.2.1 E.2.2.2.2.2.2.2.1.1 hP (E.2.2.2.2.2.2.2.2.1.D σ) hS q 1 (f := σ q) (by rw [wl_get O.1, O.2]) rfl hi hd (fun H1 l1 hP1 _ hS1 => k H1 l1 ls (by
    rw [← O.2 ω (upd (σ q) i.toNatClampNeg (vp_nar .boolean v)), wl_set O.1] at hP1
    exact hP1) hS1 h)
theorem G.ilen (E : Cx x ω cc nL own ret fr lo) {q n : Nat} (O : isI q n) (hd : decode cc pc = .ok (.arraylength, 1)) (k : G x ω nL Q σ (pc + 1) lv (.int (nI n) :: st)) : G x ω nL Q σ pc lv (.ref (wh ω q) :: st) := fun H locs ls hP hS h =>
  va_alen E.1 E.2.1 E.2.2.2.2.2.2.2.1.1 hP q 0 (x := (n, .inl (σ q))) (by rw [wl_get O.1, O.2]) (ty := .int) rfl rfl hd (k H locs ls hP hS h)
/-- cell q is a row of objects: the one at i is at the cell e i -/
def isG (q n : Nat) (e : Nat → Nat) : Prop := q < 205 ∧ ∀ (ω : Wd) (f : Nat → Int32), ceJ ω q f = .inl (wG ω, n, .inr (.inr (.inr (.inr (fun i => some (wh ω (e i)))))))
theorem G.aald (E : Cx x ω cc nL own ret fr lo) {q n : Nat} {e : Nat → Nat} (O : isG q n e) {i : Int32} (hi : vp_in i n) (hd : decode cc pc = .ok (.aaload, 1)) (k : G x ω nL Q σ (pc + 1) lv (.ref (wh ω (e i.toNatClampNeg)) :: st)) : G x ω nL Q σ pc lv (.int i :: .ref (wh ω q) :: st) := fun H locs ls hP hS h =>
  va_aldq E.1 E.2.1 E.2.2.2.2.2.2.2.1.1 hP q 2 (f := fun i => some (wh ω (e i))) (by rw [wl_get O.1, O.2]) rfl hi hd (k H locs ls hP hS h)
theorem G.gROW (E : Cx x ω cc nL own ret fr lo) {idx : Nat} {host : String} (hm : Cond.fieldLinkNest own idx RX7 "ROW_OF" "[I" host ∈ nws) (hd : decode cc pc = .ok (.getstatic idx, 3)) (k : G x ω nL Q σ (pc + 3) lv (.ref (wR ω) :: st)) : G x ω nL Q σ pc lv st := fun H locs ls hP hS h =>
  va_getsN E.1 E.2.1 E.2.2.2.2.2.2.2.1.2.2.1.1 hS E.2.2.2.1 (va_Nw.use rfl (E.2.2.2.2.2.2.2.1.2.1 _ hm)) (fun _ h9 => h9) hd (k H locs ls hP hS h)
theorem G.gCOL (E : Cx x ω cc nL own ret fr lo) {idx : Nat} {host : String} (hm : Cond.fieldLinkNest own idx RX7 "COLUMN_OF" "[I" host ∈ nws) (hd : decode cc pc = .ok (.getstatic idx, 3)) (k : G x ω nL Q σ (pc + 3) lv (.ref (wC ω) :: st)) : G x ω nL Q σ pc lv st := fun H locs ls hP hS h =>
  va_getsN E.1 E.2.1 E.2.2.2.2.2.2.2.1.2.2.2.1.1 hS E.2.2.2.1 (va_Nw.use rfl (E.2.2.2.2.2.2.2.1.2.1 _ hm)) (fun _ h9 => h9) hd (k H locs ls hP hS h)
theorem G.gPLA (E : Cx x ω cc nL own ret fr lo) {idx : Nat} {host : String} (hm : Cond.fieldLinkNest own idx RX7 "PLATE_AT" "[I" host ∈ nws) (hd : decode cc pc = .ok (.getstatic idx, 3)) (k : G x ω nL Q σ (pc + 3) lv (.ref (wP ω) :: st)) : G x ω nL Q σ pc lv st := fun H locs ls hP hS h =>
  va_getsN E.1 E.2.1 E.2.2.2.2.2.2.2.1.2.2.2.2.1 hS E.2.2.2.1 (va_Nw.use rfl (E.2.2.2.2.2.2.2.1.2.1 _ hm)) (fun _ h9 => h9) hd (k H locs ls hP hS h)
theorem G.tROW (E : Cx x ω cc nL own ret fr lo) {i : Int32} (hi : vp_in i 9) (hd : decode cc pc = .ok (.iaload, 1)) (k : G x ω nL Q σ (pc + 1) lv (.int (tROW i.toNatClampNeg) :: st)) : G x ω nL Q σ pc lv (.int i :: .ref (wR ω) :: st) := fun H locs ls hP hS h =>
  va_ti E.1 E.2.1 E.2.2.2.2.2.2.2.1.2.2.1.2 hS hi rfl hd (k H locs ls hP hS h)
theorem G.tCOL (E : Cx x ω cc nL own ret fr lo) {i : Int32} (hi : vp_in i 9) (hd : decode cc pc = .ok (.iaload, 1)) (k : G x ω nL Q σ (pc + 1) lv (.int (tCOL i.toNatClampNeg) :: st)) : G x ω nL Q σ pc lv (.int i :: .ref (wC ω) :: st) := fun H locs ls hP hS h =>
  va_ti E.1 E.2.1 E.2.2.2.2.2.2.2.1.2.2.2.1.2 hS hi rfl hd (k H locs ls hP hS h)
theorem G.tPLA (E : Cx x ω cc nL own ret fr lo) {i : Int32} (hi : vp_in i 25) (hd : decode cc pc = .ok (.iaload, 1)) (k : G x ω nL Q σ (pc + 1) lv (.int (tPLA i.toNatClampNeg) :: st)) : G x ω nL Q σ pc lv (.int i :: .ref (wP ω) :: st) := fun H locs ls hP hS h =>
  va_ti E.1 E.2.1 E.2.2.2.2.2.2.2.1.2.2.2.2.2 hS hi rfl hd (k H locs ls hP hS h)
end GL
