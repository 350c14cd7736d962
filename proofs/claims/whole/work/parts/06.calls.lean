def PreC (ω : Wd) (σ : St) (av : List Value) : Array Value → State → Prop := va_Pc av (fun U => va_P (wD ω) cls (wl ω σ) U.heap ∧ WK ω U)
def BW (ω : Wd) (σ : St) (t : State) : Prop := va_P (wD ω) cls (wl ω σ) t.heap
def Qi (ω : Wd) (P : Int32 → St → Prop) : Array Value → State → Outcome → State → Prop := va_Qi (S := St) P (BW ω) (wA ω)
def Qv (ω : Wd) (P : St → Prop) : Array Value → State → Outcome → State → Prop := va_Qv (S := St) P (BW ω) (wA ω)
abbrev rmO (fr lo : Nat) : Room := { frames := fr, cells := 0, slots := 0, locals := lo }
/-- a method's contract: from the state σ it returns r, and the state is σ', with P r σ' -/
def MI (l : Launch) (ω : Wd) (y : MethodName) (b : ByteArray) (n : Nat) (r : Option FieldType) (fr lo : Nat) (av : List Value) (σ : St) (P : Int32 → St → Prop) : Prop := Met l y (Cond.code y b n r :: tb) (rmO fr lo) (PreC ω σ av) (Qi ω P) 0 0 (wA ω)
def MV (l : Launch) (ω : Wd) (y : MethodName) (b : ByteArray) (n : Nat) (fr lo : Nat) (av : List Value) (σ : St) (P : St → Prop) : Prop := Met l y (Cond.code y b n none :: tb) (rmO fr lo) (PreC ω σ av) (Qv ω P) 0 0 (wA ω)
def qI (x : Mx) (ω : Wd) (P : Int32 → St → Prop) : State → Prop := MQ (xb x) (Qi ω P) (xa x) (xs x) (xk x) (xn x) (wA ω)
def qV (x : Mx) (ω : Wd) (P : St → Prop) : State → Prop := MQ (xb x) (Qv ω P) (xa x) (xs x) (xk x) (xn x) (wA ω)
theorem MI.intro {l : Launch} {ω : Wd} {y : MethodName} {b : ByteArray} {n : Nat} {r : Option FieldType} {fr lo : Nat} {av : List Value} {σ : St} {P : Int32 → St → Prop} (hw : WD ω) (hy : plainName y.cls = true) (hlen : (lg_sl av).length ≤ n) (body : ∀ x : Mx, Cx x ω b n y.cls r fr lo → G x ω n (qI x ω P) σ 0 (lv_args 0 av) []) : MI l ω y b n r fr lo av σ P := by
  refine Met.ofW (cc := b) (maxL := n) (ret := r) hy rfl ?_
  intro p e s m args below meth c s₁ B hml hv
  obtain ⟨rfl, hP, hK⟩ := hv
  have hts := atoms_spec (ws := Cond.code y b n r :: tb) B.pre
  have h := body (p, l, e, (headSpec (Cond.code y b n r :: tb) (rmO fr lo)).room, s, m, av.toArray, below, meth, c, 0, 0) ⟨B.exec, B.bytes, hml, findClass_of_methodNamed B.named, fun w hw => hts w (List.mem_cons_of_mem _ hw), B.returns, B.notSynchronized, hK, hw, Nat.le_refl _, Nat.le_refl _, Nat.zero_le _, Nat.zero_le _⟩ s.heap [] _ hP va_S.rf (lv_entry av hlen)
  rw [lg_entry_eq]
  exact h
theorem MV.intro {l : Launch} {ω : Wd} {y : MethodName} {b : ByteArray} {n : Nat} {fr lo : Nat} {av : List Value} {σ : St} {P : St → Prop} (hw : WD ω) (hy : plainName y.cls = true) (hlen : (lg_sl av).length ≤ n) (body : ∀ x : Mx, Cx x ω b n y.cls none fr lo → G x ω n (qV x ω P) σ 0 (lv_args 0 av) []) : MV l ω y b n fr lo av σ P := by
  refine Met.ofW (cc := b) (maxL := n) (ret := none) hy rfl ?_
  intro p e s m args below meth c s₁ B hml hv
  obtain ⟨rfl, hP, hK⟩ := hv
  have hts := atoms_spec (ws := Cond.code y b n none :: tb) B.pre
  have h := body (p, l, e, (headSpec (Cond.code y b n none :: tb) (rmO fr lo)).room, s, m, av.toArray, below, meth, c, 0, 0) ⟨B.exec, B.bytes, hml, findClass_of_methodNamed B.named, fun w hw => hts w (List.mem_cons_of_mem _ hw), B.returns, B.notSynchronized, hK, hw, Nat.le_refl _, Nat.le_refl _, Nat.zero_le _, Nat.zero_le _⟩ s.heap [] _ hP va_S.rf (lv_entry av hlen)
  rw [lg_entry_eq]
  exact h
/-- cell q is an object of class C -/
def Rc (ω : Wd) (q : Nat) (C : String) : Prop := q < 205 ∧ ∃ (ci : Nat) (T : u_T) (N : Nat), cls[ci]? = some (C, T, N) ∧ ∀ f, ∃ fs, ceJ ω q f = .inr (ci, fs)
theorem Ob.rc {ω : Wd} {q ci N : Nat} {C : String} {T : u_T} {fs : (Nat → Int32) → List Value} (O : Ob ω q ci C T N fs) : Rc ω q C := ⟨O.1, ci, T, N, O.2.2.1, fun f => ⟨_, O.2.1 f⟩⟩
theorem preC_blind {ω : Wd} {σ : St} {av : List Value} : FrameBlind (PreC ω σ av) := fun _ _ _ _ q => ⟨q.1, q.2.1, q.2.2.call⟩
section GC
variable {x : Mx} {ω : Wd} {cc : ByteArray} {nL : Nat} {own : String} {ret : Option FieldType} {fr lo : Nat} {Q : State → Prop} {σ : St} {pc : Nat} {lv : List (Nat × Value)} {st st0 : List Value}
theorem G.iret (E : Cx x ω cc nL own (some .int) fr lo) {P : Int32 → St → Prop} {v : Int32} (hd : decode cc pc = .ok (.ireturn, 1)) (hp : P v σ) : G x ω nL (qI x ω P) σ pc lv [.int v] := fun H locs ls hP hS h =>
  W.iret E.1 E.2.1 E.2.2.2.2.2.1 (fun t ht hW => ⟨⟨v, σ, rfl, hp, by unfold BW; rw [ht]; exact hP⟩, hS.F ht⟩) hS.2.2 hd E.2.2.2.2.2.2.1
theorem G.zret (E : Cx x ω cc nL own (some .boolean) fr lo) {P : Int32 → St → Prop} {v : Int32} (hd : decode cc pc = .ok (.ireturn, 1)) (hz : narrow .boolean (.int v) = .int v) (hp : P v σ) : G x ω nL (qI x ω P) σ pc lv [.int v] := fun H locs ls hP hS h =>
  W.zret E.1 E.2.1 E.2.2.2.2.2.1 hz (fun t ht hW => ⟨⟨v, σ, rfl, hp, by unfold BW; rw [ht]; exact hP⟩, hS.F ht⟩) hS.2.2 hd E.2.2.2.2.2.2.1
theorem G.vret (E : Cx x ω cc nL own none fr lo) {P : St → Prop} (hd : decode cc pc = .ok (.return_, 1)) (hp : P σ) : G x ω nL (qV x ω P) σ pc lv [] := fun H locs ls hP hS h =>
  W.vret E.1 E.2.1 E.2.2.2.2.2.1 (fun t ht hW => ⟨⟨σ, rfl, hp, by unfold BW; rw [ht]; exact hP⟩, hS.F ht⟩) hS.2.2 hd E.2.2.2.2.2.2.1
variable {y : MethodName} {b : ByteArray} {n na frc loc idx q : Nat} {r : Option FieldType} {C : String} {As rest : List Value}
theorem cbV (E : Cx x ω cc nL own ret fr lo) (K : CalV y b n r C na) (hm : Cond.methodLink own idx y ∈ tb) (hR : frc + 1 ≤ fr ∧ 8 + (n + 11) + loc ≤ lo) : CallW (xR x) (xs x) (xa x) own C idx y b n r (Cond.code y b n r :: tb) (rmO frc loc) 0 0 na := by
  obtain ⟨k1, k2, k3, k4, k5, k6, k7, k8⟩ := K
  exact ⟨callB_of na E.2.2.2.2.1 (tb_gd k1) rfl rfl rfl (E.2.2.2.2.1 _ (by rw [k5]; exact k4)) (E.2.2.2.2.1 _ hm) ⟨k6, k7, k8⟩ ⟨Nat.le_trans hR.1 E.2.2.2.2.2.2.2.2.2.1, Nat.le_trans hR.2 E.2.2.2.2.2.2.2.2.2.2.1⟩, E.2.2.2.2.1 _ k2, E.2.2.2.2.1 _ k3⟩
theorem cbS (E : Cx x ω cc nL own ret fr lo) (K : CalS y b n r C na) (hm : Cond.methodLink own idx y ∈ tb) (hR : frc + 1 ≤ fr ∧ 8 + (n + 11) + loc ≤ lo) : CallB (xR x) (xs x) (xa x) own idx y b n r (Cond.code y b n r :: tb) (rmO frc loc) 0 0 na ∧ (Cond.static y).before (xa x) (xs x) = true := by
  obtain ⟨k1, k2, k4, k5, k6, k7, k8⟩ := K
  exact ⟨callB_of na E.2.2.2.2.1 (tb_gd k1) rfl rfl rfl (E.2.2.2.2.1 _ (by rw [k5]; exact k4)) (E.2.2.2.2.1 _ hm) ⟨k6, k7, k8⟩ ⟨Nat.le_trans hR.1 E.2.2.2.2.2.2.2.2.2.1, Nat.le_trans hR.2 E.2.2.2.2.2.2.2.2.2.2.1⟩, E.2.2.2.2.1 _ k2⟩
theorem cbSN {host : String} (E : Cx x ω cc nL own ret fr lo) (K : CalS y b n r C na) (hm : Cond.methodLinkNest own idx y host ∈ nws) (hR : frc + 1 ≤ fr ∧ 8 + (n + 11) + loc ≤ lo) : va_CN (xR x) (xs x) (xa x) own idx y host b n r (Cond.code y b n r :: tb) (rmO frc loc) 0 0 na ∧ (Cond.static y).before (xa x) (xs x) = true ∧ True := by
  obtain ⟨k1, k2, k4, k5, k6, k7, k8⟩ := K
  exact ⟨va_cnB na E.2.2.2.2.1 (tb_gd k1) rfl rfl rfl (E.2.2.2.2.2.2.2.1.2.1 _ hm) (E.2.2.2.2.1 _ (by rw [k5]; exact k4)) ⟨k6, k7, k8⟩ ⟨Nat.le_trans hR.1 E.2.2.2.2.2.2.2.2.2.1, Nat.le_trans hR.2 E.2.2.2.2.2.2.2.2.2.2.1⟩, E.2.2.2.2.1 _ k2, trivial⟩
theorem preV_of (E : Cx x ω cc nL own ret fr lo) (O : Rc ω q C) {H : Heap} {locs : List Loc} (hP : va_P (wD ω) cls (wl ω σ) H) (hS : va_S (wA ω) (xs x).heap H locs) : PreV (xs x) H C (wh ω q) (PreC ω σ (.ref (wh ω q) :: As)) As := by
  obtain ⟨hq, ci, T, N, hc, hf⟩ := O
  obtain ⟨fs, hfs⟩ := hf (σ q)
  exact ⟨preC_blind, va_recv E.2.2.2.2.2.2.2.1.1 hP hc (q0 := q) (fs := fs) (by rw [wl_get hq, hfs]), fun U hU hW => ⟨rfl, by rw [hU]; exact hP, E.2.2.2.2.2.2.2.1.warm hW hS hU⟩⟩
theorem preS_of (E : Cx x ω cc nL own ret fr lo) {H : Heap} {locs : List Loc} (hP : va_P (wD ω) cls (wl ω σ) H) (hS : va_S (wA ω) (xs x).heap H locs) : PreS (xs x) H (PreC ω σ As) As :=
  ⟨preC_blind, fun U hU hW => ⟨rfl, by rw [hU]; exact hP, E.2.2.2.2.2.2.2.1.warm hW hS hU⟩⟩
theorem G.callI {P : Int32 → St → Prop} (E : Cx x ω cc nL own ret fr lo) (K : CalV y b n r C na) (O : Rc ω q C) (hM : MI (xl x) ω y b n r frc loc (.ref (wh ω q) :: As) σ P) (hm : Cond.methodLink own idx y ∈ tb) (hna : As.length = na) (hR : frc + 1 ≤ fr ∧ 8 + (n + 11) + loc ≤ lo) (hst : st0 = As.reverse ++ .ref (wh ω q) :: rest) (hW : (rest.map fun v => v.category).sum ≤ 8) (hd : decode cc pc = .ok (.invokevirtual idx, 3))
    (k : ∀ (v : Int32) (σ' : St), P v σ' → G x ω nL Q σ' (pc + 3) lv (.int v :: rest)) : G x ω nL Q σ pc lv st0 := fun H locs ls hP hS h =>
  va_calli (va_runV (As := As) (rest := rest) ⟨E.1, E.2.1, E.2.2.1, E.2.2.2.1, E.2.2.2.2.1⟩ hM (cbV E K hm hR) (preV_of E O hP hS) rfl hna h.1 hst (lv_room (pc := pc) (ls := ls) (rest := st0) hW) hd ⟨E.2.2.2.2.2.2.2.2.2.2.2.1, E.2.2.2.2.2.2.2.2.2.2.2.2⟩) hS (fun _ _ z => z) (fun _ z => z) (fun v u t H1 l1 ht _ hp hB _ _ hS1 => k v u hp H1 l1 ls (by rw [← ht]; exact hB) hS1 h)
theorem G.callV {P : St → Prop} (E : Cx x ω cc nL own ret fr lo) (K : CalV y b n none C na) (O : Rc ω q C) (hM : MV (xl x) ω y b n frc loc (.ref (wh ω q) :: As) σ P) (hm : Cond.methodLink own idx y ∈ tb) (hna : As.length = na) (hR : frc + 1 ≤ fr ∧ 8 + (n + 11) + loc ≤ lo) (hst : st0 = As.reverse ++ .ref (wh ω q) :: rest) (hW : (rest.map fun v => v.category).sum ≤ 8) (hd : decode cc pc = .ok (.invokevirtual idx, 3))
    (k : ∀ (σ' : St), P σ' → G x ω nL Q σ' (pc + 3) lv rest) : G x ω nL Q σ pc lv st0 := fun H locs ls hP hS h =>
  va_callv (va_runV (As := As) (rest := rest) ⟨E.1, E.2.1, E.2.2.1, E.2.2.2.1, E.2.2.2.2.1⟩ hM (cbV E K hm hR) (preV_of E O hP hS) rfl hna h.1 hst (lv_room (pc := pc) (ls := ls) (rest := st0) hW) hd ⟨E.2.2.2.2.2.2.2.2.2.2.2.1, E.2.2.2.2.2.2.2.2.2.2.2.2⟩) hS (fun _ _ z => z) (fun _ z => z) (fun u t H1 l1 ht _ hp hB _ _ hS1 => k u hp H1 l1 ls (by rw [← ht]; exact hB) hS1 h)
theorem G.callSI {P : Int32 → St → Prop} (E : Cx x ω cc nL own ret fr lo) (K : CalS y b n r C na) (hM : MI (xl x) ω y b n r frc loc As σ P) (hm : Cond.methodLink own idx y ∈ tb) (hna : As.length = na) (hR : frc + 1 ≤ fr ∧ 8 + (n + 11) + loc ≤ lo) (hst : st0 = As.reverse ++ rest) (hW : (rest.map fun v => v.category).sum ≤ 8) (hd : decode cc pc = .ok (.invokestatic idx, 3))
    (k : ∀ (v : Int32) (σ' : St), P v σ' → G x ω nL Q σ' (pc + 3) lv (.int v :: rest)) : G x ω nL Q σ pc lv st0 := fun H locs ls hP hS h =>
  va_calli (va_runS (As := As) (rest := rest) ⟨E.1, E.2.1, E.2.2.1, E.2.2.2.1, E.2.2.2.2.1⟩ hM (cbS E K hm hR) (preS_of E hP hS) rfl hna h.1 hst (lv_room (pc := pc) (ls := ls) (rest := st0) hW) hd ⟨E.2.2.2.2.2.2.2.2.2.2.2.1, E.2.2.2.2.2.2.2.2.2.2.2.2⟩) hS (fun _ _ z => z) (fun _ z => z) (fun v u t H1 l1 ht _ hp hB _ _ hS1 => k v u hp H1 l1 ls (by rw [← ht]; exact hB) hS1 h)
theorem G.callSV {P : St → Prop} (E : Cx x ω cc nL own ret fr lo) (K : CalS y b n none C na) (hM : MV (xl x) ω y b n frc loc As σ P) (hm : Cond.methodLink own idx y ∈ tb) (hna : As.length = na) (hR : frc + 1 ≤ fr ∧ 8 + (n + 11) + loc ≤ lo) (hst : st0 = As.reverse ++ rest) (hW : (rest.map fun v => v.category).sum ≤ 8) (hd : decode cc pc = .ok (.invokestatic idx, 3))
    (k : ∀ (σ' : St), P σ' → G x ω nL Q σ' (pc + 3) lv rest) : G x ω nL Q σ pc lv st0 := fun H locs ls hP hS h =>
  va_callv (va_runS (As := As) (rest := rest) ⟨E.1, E.2.1, E.2.2.1, E.2.2.2.1, E.2.2.2.2.1⟩ hM (cbS E K hm hR) (preS_of E hP hS) rfl hna h.1 hst (lv_room (pc := pc) (ls := ls) (rest := st0) hW) hd ⟨E.2.2.2.2.2.2.2.2.2.2.2.1, E.2.2.2.2.2.2.2.2.2.2.2.2⟩) hS (fun _ _ z => z) (fun _ z => z) (fun u t H1 l1 ht _ hp hB _ _ hS1 => k u hp H1 l1 ls (by rw [← ht]; exact hB) hS1 h)
theorem G.callSNI {host : String} {P : Int32 → St → Prop} (E : Cx x ω cc nL own ret fr lo) (K : CalS y b n r C na) (hM : MI (xl x) ω y b n r frc loc As σ P) (hm : Cond.methodLinkNest own idx y host ∈ nws) (hna : As.length = na) (hR : frc + 1 ≤ fr ∧ 8 + (n + 11) + loc ≤ lo) (hst : st0 = As.reverse ++ rest) (hW : (rest.map fun v => v.category).sum ≤ 8) (hd : decode cc pc = .ok (.invokestatic idx, 3))
    (k : ∀ (v : Int32) (σ' : St), P v σ' → G x ω nL Q σ' (pc + 3) lv (.int v :: rest)) : G x ω nL Q σ pc lv st0 := fun H locs ls hP hS h =>
  va_calli (va_runSN (As := As) (rest := rest) ⟨E.1, E.2.1, E.2.2.1, E.2.2.2.1, E.2.2.2.2.1⟩ hM (cbSN E K hm hR) (preS_of E hP hS) rfl hna h.1 hst (lv_room (pc := pc) (ls := ls) (rest := st0) hW) hd ⟨E.2.2.2.2.2.2.2.2.2.2.2.1, E.2.2.2.2.2.2.2.2.2.2.2.2⟩) hS (fun _ _ z => z) (fun _ z => z) (fun v u t H1 l1 ht _ hp hB _ _ hS1 => k v u hp H1 l1 ls (by rw [← ht]; exact hB) hS1 h)
theorem G.mmax (E : Cx x ω cc nL own ret fr lo) {a b : Int32} (hm : Cond.methodLink own idx Lib.Math.max.name ∈ tb) (hfr : 1 ≤ fr) (hlo : (st.map fun v => v.category).sum + 13 ≤ lo) (hd : decode cc pc = .ok (.invokestatic idx, 3)) (k : G x ω nL Q σ (pc + 3) lv (.int (if a < b then b else a) :: st)) : G x ω nL Q σ pc lv (.int b :: .int a :: st) := fun H locs ls hP hS h =>
  va_mmax E.1 E.2.1 (E.2.2.1.trans h.1.symm) E.2.2.2.1 (E.2.2.2.2.1 _ hm) (E.2.2.2.2.1 _ sm_J9_max_7cf53) (E.2.2.2.2.1 _ in_RJ9) (E.2.2.2.2.1 _ co_J9_max_7cf53) (Nat.le_trans hfr E.2.2.2.2.2.2.2.2.2.1) (Nat.le_trans hlo E.2.2.2.2.2.2.2.2.2.2.1) E.2.2.2.2.2.2.2.2.2.2.2.1 E.2.2.2.2.2.2.2.2.2.2.2.2 hd (k H locs ls hP hS h)
theorem G.mmin (E : Cx x ω cc nL own ret fr lo) {a b : Int32} (hm : Cond.methodLink own idx Lib.Math.min.name ∈ tb) (hfr : 1 ≤ fr) (hlo : (st.map fun v => v.category).sum + 13 ≤ lo) (hd : decode cc pc = .ok (.invokestatic idx, 3)) (k : G x ω nL Q σ (pc + 3) lv (.int (if b < a then b else a) :: st)) : G x ω nL Q σ pc lv (.int b :: .int a :: st) := fun H locs ls hP hS h =>
  va_mmin E.1 E.2.1 (E.2.2.1.trans h.1.symm) E.2.2.2.1 (E.2.2.2.2.1 _ hm) (E.2.2.2.2.1 _ sm_J9_min_7cf53) (E.2.2.2.2.1 _ in_RJ9) (E.2.2.2.2.1 _ co_J9_min_7cf53) (Nat.le_trans hfr E.2.2.2.2.2.2.2.2.2.1) (Nat.le_trans hlo E.2.2.2.2.2.2.2.2.2.2.1) E.2.2.2.2.2.2.2.2.2.2.2.1 E.2.2.2.2.2.2.2.2.2.2.2.2 hd (k H locs ls hP hS h)
theorem G.mabs (E : Cx x ω cc nL own ret fr lo) {a : Int32} (hm : Cond.methodLink own idx Lib.Math.abs.name ∈ tb) (hfr : 1 ≤ fr) (hlo : (st.map fun v => v.category).sum + 13 ≤ lo) (hd : decode cc pc = .ok (.invokestatic idx, 3)) (k : G x ω nL Q σ (pc + 3) lv (.int (if 0 ≤ a then a else 0 - a) :: st)) : G x ω nL Q σ pc lv (.int a :: st) := fun H locs ls hP hS h =>
  va_mabs E.1 E.2.1 (E.2.2.1.trans h.1.symm) E.2.2.2.1 (E.2.2.2.2.1 _ hm) (E.2.2.2.2.1 _ sm_J9_abs_0f7a4) (E.2.2.2.2.1 _ in_RJ9) (E.2.2.2.2.1 _ co_J9_abs_0f7a4) (Nat.le_trans hfr E.2.2.2.2.2.2.2.2.2.1) (Nat.le_trans hlo E.2.2.2.2.2.2.2.2.2.2.1) E.2.2.2.2.2.2.2.2.2.2.2.1 E.2.2.2.2.2.2.2.2.2.2.2.2 hd (k H locs ls hP hS h)
/-- System.arraycopy(a, 0, b, 0, 9) of two rows of nine ints -/
theorem G.copy9 (E : Cx x ω cc nL own ret fr lo) {q1 : Nat} (O0 : isI q 9) (O1 : isI q1 9) (hm : Cond.methodLink own idx arraycopyName ∈ tb) (hfr : 1 ≤ fr) (hlo : (st.map fun v => v.category).sum + (nativeFrameWords "java/lang/System" "arraycopy" 5 + 11) ≤ lo) (hd : decode cc pc = .ok (.invokestatic idx, 3)) (k : G x ω nL Q (sa σ q1 (va_cpy (σ q) (σ q1) 0 0 9)) (pc + 3) lv st) : G x ω nL Q σ pc lv (.int 9 :: .int 0 :: .ref (wh ω q1) :: .int 0 :: .ref (wh ω q) :: st) := fun H locs ls hP hS h =>
  va_copyi E.1 E.2.1 (E.2.2.1.trans h.1.symm) E.2.2.2.1 (E.2.2.2.2.1 _ hm) (E.2.2.2.2.1 _ na_arraycopy) (E.2.2.2.2.1 _ sm_arraycopy) (E.2.2.2.2.1 _ in_RJ10) E.2.2.2.2.2.2.2.1.1 hP (E.2.2.2.2.2.2.2.2.1.D σ) hS q q1 0 0 (f := σ q) (g := σ q1) (ty := .int) (by rw [wl_get O0.1, O0.2]) (by rw [wl_get O1.1, O1.2]) rfl rfl rfl (by decide) (by decide) (by decide) (by decide) (by decide) (fun _ _ => rfl) (Nat.le_trans hfr E.2.2.2.2.2.2.2.2.2.1) (Nat.le_trans hlo E.2.2.2.2.2.2.2.2.2.2.1) hd (fun H1 l1 hP1 _ hS1 => k H1 l1 ls (by
    rw [← O1.2 ω, wl_set O1.1] at hP1
    exact hP1) hS1 h)
end GC
def isX3 (q : Nat) : Prop := q < 160 ∧ q % 8 = 0
theorem oX3 {ω : Wd} {q : Nat} (h : isX3 q) : Ob ω q 3 RX3 TX3 12 (fX3 ω q) := ⟨by have := h.1; omega, fun f => by unfold ceJ; rw [if_pos h.1, if_pos h.2], rfl, uw_X3⟩
theorem wX3 {ω : Wd} {q : Nat} : Obw TX3 12 tyX3 (fX3 ω q) := ⟨tyX3_ok, nmX3, fun _ => rfl⟩
theorem aX3 {q : Nat} (h : isX3 q) (i : Nat) (h1 : 1 ≤ i) (h2 : i ≤ 7) : isI (q + i) 9 := ⟨by have := h.1; omega, fun ω f => by
  have h3 := h.1
  have h4 := h.2
  unfold ceJ
  rw [if_pos (by omega), if_neg (by omega)]⟩
theorem gX3_ring {i : Nat} (h : i < 16) : isX3 (32 + 8 * i) := ⟨by omega, by omega⟩
theorem gX3_imgs {i : Nat} (h : i < 2) : isX3 (16 + 8 * i) := ⟨by omega, by omega⟩
theorem vp_lt {i : Int32} {n : Nat} (h : vp_in i n) : i.toNatClampNeg < n := Nat.not_le.mp fun q => h (Or.inr q)
theorem oX0 {ω : Wd} : Ob ω 178 0 RX0 TX0 7 (fX0 ω) := ⟨by decide, fun _ => rfl, rfl, uw_X0⟩
theorem wX0 {ω : Wd} : Obw TX0 7 tyX0 (fX0 ω) := ⟨tyX0_ok, nmX0, fun _ => rfl⟩
theorem oX1 {ω : Wd} : Ob ω 182 1 RX1 TX1 3 (fX1 ω) := ⟨by decide, fun _ => rfl, rfl, uw_X1⟩
theorem wX1 {ω : Wd} : Obw TX1 3 tyX1 (fX1 ω) := ⟨tyX1_ok, nmX1, fun _ => rfl⟩
theorem oX2 {ω : Wd} : Ob ω 161 2 RX2 TX2 10 (fX2 ω) := ⟨by decide, fun _ => rfl, rfl, uw_X2⟩
theorem wX2 {ω : Wd} : Obw TX2 10 tyX2 (fX2 ω) := ⟨tyX2_ok, nmX2, fun _ => rfl⟩
theorem oX4 {ω : Wd} : Ob ω 166 4 RX4 TX4 3 (fX4 ω) := ⟨by decide, fun _ => rfl, rfl, uw_X4⟩
theorem wX4 {ω : Wd} : Obw TX4 3 tyX4 (fX4 ω) := ⟨tyX4_ok, nmX4, fun _ => rfl⟩
theorem oX5 {ω : Wd} : Ob ω 171 5 RX5 TX5 8 (fX5 ω) := ⟨by decide, fun _ => rfl, rfl, uw_X5⟩
theorem wX5 {ω : Wd} : Obw TX5 8 tyX5 (fX5 ω) := ⟨tyX5_ok, nmX5, fun _ => rfl⟩
theorem oX6 {ω : Wd} : Ob ω 176 6 RX6 TX6 2 (fX6 ω) := ⟨by decide, fun _ => rfl, rfl, uw_X6⟩
theorem wX6 {ω : Wd} : Obw TX6 2 tyX6 (fX6 ω) := ⟨tyX6_ok, nmX6, fun _ => rfl⟩
theorem oX7 {ω : Wd} : Ob ω 160 7 RX7 TX7 13 (fX7 ω) := ⟨by decide, fun _ => rfl, rfl, uw_X7⟩
theorem wX7 {ω : Wd} : Obw TX7 13 tyX7 (fX7 ω) := ⟨tyX7_ok, nmX7, fun _ => rfl⟩
theorem oX8 {ω : Wd} : Ob ω 185 8 RX8 TX8 35 (fX8 ω) := ⟨by decide, fun _ => rfl, rfl, uw_X8⟩
theorem wX8 {ω : Wd} : Obw TX8 35 tyX8 (fX8 ω) := ⟨tyX8_ok, nmX8, fun _ => rfl⟩
theorem a_162 : isI 162 240 := ⟨by decide, fun _ _ => rfl⟩
theorem a_163 : isI 163 9 := ⟨by decide, fun _ _ => rfl⟩
theorem a_164 : isI 164 9 := ⟨by decide, fun _ _ => rfl⟩
theorem a_165 : isI 165 9 := ⟨by decide, fun _ _ => rfl⟩
theorem a_167 : isG 167 16 (fun i => 32 + 8 * i) := ⟨by decide, fun _ _ => rfl⟩
theorem a_168 : isG 168 2 (fun i => 16 + 8 * i) := ⟨by decide, fun _ _ => rfl⟩
theorem a_169 : isZ 169 2 := ⟨by decide, fun _ _ => rfl⟩
theorem a_170 : isI 170 2 := ⟨by decide, fun _ _ => rfl⟩
theorem a_172 : isI 172 9 := ⟨by decide, fun _ _ => rfl⟩
theorem a_173 : isI 173 9 := ⟨by decide, fun _ _ => rfl⟩
theorem a_174 : isI 174 9 := ⟨by decide, fun _ _ => rfl⟩
theorem a_175 : isI 175 9 := ⟨by decide, fun _ _ => rfl⟩
theorem a_177 : isI 177 600 := ⟨by decide, fun _ _ => rfl⟩
theorem a_179 : isI 179 512 := ⟨by decide, fun _ _ => rfl⟩
theorem a_180 : isI 180 512 := ⟨by decide, fun _ _ => rfl⟩
theorem a_181 : isI 181 512 := ⟨by decide, fun _ _ => rfl⟩
theorem a_183 : isI 183 15 := ⟨by decide, fun _ _ => rfl⟩
theorem a_184 : isZ 184 15 := ⟨by decide, fun _ _ => rfl⟩
theorem a_186 : isI 186 240 := ⟨by decide, fun _ _ => rfl⟩
theorem a_187 : isI 187 27 := ⟨by decide, fun _ _ => rfl⟩
theorem a_188 : isI 188 9 := ⟨by decide, fun _ _ => rfl⟩
theorem a_189 : isI 189 49 := ⟨by decide, fun _ _ => rfl⟩
theorem a_190 : isI 190 98 := ⟨by decide, fun _ _ => rfl⟩
theorem a_191 : isZ 191 2 := ⟨by decide, fun _ _ => rfl⟩
theorem a_192 : isI 192 784 := ⟨by decide, fun _ _ => rfl⟩
theorem a_193 : isI 193 15 := ⟨by decide, fun _ _ => rfl⟩
theorem a_194 : isZ 194 15 := ⟨by decide, fun _ _ => rfl⟩
theorem a_195 : isI 195 9 := ⟨by decide, fun _ _ => rfl⟩
theorem a_196 : isI 196 9 := ⟨by decide, fun _ _ => rfl⟩
theorem a_197 : isI 197 9 := ⟨by decide, fun _ _ => rfl⟩
theorem a_198 : isI 198 9 := ⟨by decide, fun _ _ => rfl⟩
theorem a_199 : isI 199 10 := ⟨by decide, fun _ _ => rfl⟩
theorem a_200 : isI 200 10 := ⟨by decide, fun _ _ => rfl⟩
theorem a_201 : isI 201 10 := ⟨by decide, fun _ _ => rfl⟩
theorem a_202 : isI 202 512 := ⟨by decide, fun _ _ => rfl⟩
theorem a_203 : isI 203 512 := ⟨by decide, fun _ _ => rfl⟩
theorem a_204 : isI 204 512 := ⟨by decide, fun _ _ => rfl⟩
