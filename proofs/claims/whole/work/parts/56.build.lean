/-! ===== the world is made: cells in a list, no shape yet ===== -/
theorem va_P.all {D : va_G} {cl : List vw_C} {ws : va_W} {H : Heap} : va_P D cl ws H ↔ ∀ q ∈ ws, va_at D cl q H :=
  ⟨fun h q hq => by obtain ⟨k, hk⟩ := List.mem_iff_getElem?.mp hq; exact h k q hk, fun h k q hk => h q (List.mem_of_getElem? hk)⟩
theorem va_D.all {A : Nat → Prop} {ws : va_W} : va_D A ws ↔ (ws.map Prod.fst).Nodup ∧ ∀ q ∈ ws, A q.1 := by
  constructor
  · intro h
    refine ⟨?_, fun q hq => ?_⟩
    · rw [List.Nodup, List.pairwise_iff_getElem]
      intro i j hi hj hij e
      rw [List.length_map] at hi hj
      rw [List.getElem_map, List.getElem_map] at e
      have := h.1 i j _ _ (List.getElem?_eq_getElem hi) (List.getElem?_eq_getElem hj) e
      omega
    · obtain ⟨k, hk⟩ := List.mem_iff_getElem?.mp hq
      exact h.2 k q hk
  · intro h
    refine ⟨fun i j p q hp hq e => ?_, fun k q hk => h.2 q (List.mem_of_getElem? hk)⟩
    have hn := h.1
    rw [List.Nodup, List.pairwise_iff_getElem] at hn
    obtain ⟨hi, ei⟩ := List.getElem?_eq_some_iff.mp hp
    obtain ⟨hj, ej⟩ := List.getElem?_eq_some_iff.mp hq
    rcases Nat.lt_trichotomy i j with z | z | z
    · exact absurd (by rw [List.getElem_map, List.getElem_map, ei, ej]; exact e) (hn i j (by rw [List.length_map]; exact hi) (by rw [List.length_map]; exact hj) z)
    · exact z
    · exact absurd (by rw [List.getElem_map, List.getElem_map, ei, ej]; exact e.symm) (hn j i (by rw [List.length_map]; exact hj) (by rw [List.length_map]; exact hi) z)
theorem va_P.perm {D : va_G} {cl : List vw_C} {w w' : va_W} {H : Heap} (p : w.Perm w') (h : va_P D cl w H) : va_P D cl w' H := va_P.all.mpr (fun q hq => va_P.all.mp h q (p.mem_iff.mpr hq))
theorem va_D.perm {A : Nat → Prop} {w w' : va_W} (p : w.Perm w') (h : va_D A w) : va_D A w' := by
  obtain ⟨a, b⟩ := va_D.all.mp h
  exact va_D.all.mpr ⟨(p.map Prod.fst).nodup_iff.mp a, fun q hq => b q (p.mem_iff.mpr hq)⟩
theorem bw_perm (g t a b : va_W) : ((g ++ t) ++ (a ++ b)).Perm ((g ++ a) ++ (t ++ b)) := by
  rw [List.append_assoc, List.append_assoc]
  refine List.Perm.append_left g ?_
  rw [← List.append_assoc, ← List.append_assoc]
  exact List.Perm.append_right b List.perm_append_comm
/-- what the tables say while the world is made -/
def KB (ω : Wd) (U : State) : Prop := va_K (wD ω) cls (tyL ω) U ∧ (∀ w ∈ nws, va_Nw w U) ∧ va_AO RX3 U
theorem KB.warm {ω : Wd} {s U : State} (h : KB ω s) (hW : s.WarmedH U.vm) : KB ω U := ⟨h.1.moved hW.alike, fun w hw => nw_warm hw hW (h.2.1 w hw), h.2.2.moved hW.alike⟩
theorem KB.call {ω : Wd} {U : State} {g : JFrame} {mk : MethodId} {a : Array Value} (h : KB ω U) : KB ω (U.calling g mk a) :=
  ⟨va_K.moved (u := U) (U := U.calling g mk a) (Vm.Alike.refl U.vm) h.1, fun w hw => nw_same hw (s := U) (U := U.calling g mk a) rfl (h.2.1 w hw), va_AO.moved (u := U) (U := U.calling g mk a) (Vm.Alike.refl U.vm) h.2.2⟩
def Bx (x : Mx) (ω : Wd) (A : Nat → Prop) (cc : ByteArray) (nL : Nat) (own : String) (fr lo kc ks : Nat) : Prop :=
  x.1.tables.exec = Jvm.exec ∧ (xc x).code = cc ∧ (xc x).maxLocals = nL ∧ (xs x).vm.findClass own = some (xm x).cls ∧ (∀ w ∈ tb, w.before (xa x) (xs x) = true) ∧ KB ω (xs x) ∧ (∀ q, (xs x).heap.size ≤ q → A q) ∧ fr ≤ (xR x).frames ∧ lo ≤ (xR x).locals ∧ kc ≤ (xR x).cells ∧ ks ≤ (xR x).slots
def Ini (x : Mx) : Prop := (xM x).sig.returnType = none ∧ (xM x).locks = false ∧ (xM x).name = "<init>"
/-- from here, whatever heap holds the cells, the machine comes to Q -/
def B (x : Mx) (ω : Wd) (A : Nat → Prop) (nL : Nat) (Q : State → Prop) (gs tl : va_W) (k n : Nat) (pc : Nat) (lv : List (Nat × Value)) (st : List Value) : Prop :=
  ∀ (H : Heap) (locs : List Loc) (ls : Array Slot), va_P (wD ω) cls (gs ++ tl) H → va_D A (gs ++ tl) → va_S A (xs x).heap H locs → lv_has ls nL lv → W x.1 (xl x) x.2.2.1 (xR x) (xs x) (xm x) (xa x) (xb x) (xM x) (xc x) H locs k n Q (F0 (xm x) pc ls st)
section BL
variable {x : Mx} {ω : Wd} {A : Nat → Prop} {cc : ByteArray} {nL : Nat} {own : String} {fr lo kc ks : Nat} {Q : State → Prop} {gs tl : va_W} {k n : Nat} {pc : Nat} {lv : List (Nat × Value)} {st : List Value}
theorem B.sub {lv' : List (Nat × Value)} (is : List Nat) (hl : lv_pick lv is = lv') (kk : B x ω A nL Q gs tl k n pc lv' st) : B x ω A nL Q gs tl k n pc lv st := fun H locs ls hP hD hS h => kk H locs ls hP hD hS (lv_sub h is hl)
theorem B.iconst (E : Bx x ω A cc nL own fr lo kc ks) {i : Int} {v : Int32} (hd : decode cc pc = .ok (.iconst i, 1)) (hv : Int32.ofInt i = v) (kk : B x ω A nL Q gs tl k n (pc + 1) lv (.int v :: st)) : B x ω A nL Q gs tl k n pc lv st := fun H locs ls hP hD hS h => lv_iconst E.1 E.2.1 hd hv (kk H locs ls hP hD hS h)
theorem B.bipush (E : Bx x ω A cc nL own fr lo kc ks) {i : Int} {v : Int32} (hd : decode cc pc = .ok (.bipush i, 2)) (hv : (Int8.ofInt i).toInt32 = v) (kk : B x ω A nL Q gs tl k n (pc + 2) lv (.int v :: st)) : B x ω A nL Q gs tl k n pc lv st := fun H locs ls hP hD hS h => lv_bipush E.1 E.2.1 hd hv (kk H locs ls hP hD hS h)
theorem B.sipush (E : Bx x ω A cc nL own fr lo kc ks) {i : Int} {v : Int32} (hd : decode cc pc = .ok (.sipush i, 3)) (hv : (Int16.ofInt i).toInt32 = v) (kk : B x ω A nL Q gs tl k n (pc + 3) lv (.int v :: st)) : B x ω A nL Q gs tl k n pc lv st := fun H locs ls hP hD hS h => lv_sipush E.1 E.2.1 hd hv (kk H locs ls hP hD hS h)
theorem B.iadd (E : Bx x ω A cc nL own fr lo kc ks) {a b : Int32} (hd : decode cc pc = .ok (.iadd, 1)) (kk : B x ω A nL Q gs tl k n (pc + 1) lv (.int (a + b) :: st)) : B x ω A nL Q gs tl k n pc lv (.int b :: .int a :: st) := fun H locs ls hP hD hS h => lv_iadd E.1 E.2.1 hd (kk H locs ls hP hD hS h)
theorem B.dup (E : Bx x ω A cc nL own fr lo kc ks) {v : Value} (hd : decode cc pc = .ok (.dup, 1)) (hc : v.category = 1) (kk : B x ω A nL Q gs tl k n (pc + 1) lv (v :: v :: st)) : B x ω A nL Q gs tl k n pc lv (v :: st) := fun H locs ls hP hD hS h => lv_dup E.1 E.2.1 hd hc (kk H locs ls hP hD hS h)
theorem B.iload_n (E : Bx x ω A cc nL own fr lo kc ks) {j : Fin 4} {i : Nat} {v : Int32} (hd : decode cc pc = .ok (.iload_n j, 1)) (hi : (j : Nat) = i) (k0 : Nat) (hk : lv[k0]? = some (i, .int v)) (kk : B x ω A nL Q gs tl k n (pc + 1) lv (.int v :: st)) : B x ω A nL Q gs tl k n pc lv st := fun H locs ls hP hD hS h => lv_iload_n E.1 E.2.1 hd hi (lv_at h k0 hk) (kk H locs ls hP hD hS h)
theorem B.aload_n (E : Bx x ω A cc nL own fr lo kc ks) {j : Fin 4} {i : Nat} {v : Nat} (hd : decode cc pc = .ok (.aload_n j, 1)) (hi : (j : Nat) = i) (k0 : Nat) (hk : lv[k0]? = some (i, .ref v)) (kk : B x ω A nL Q gs tl k n (pc + 1) lv (.ref v :: st)) : B x ω A nL Q gs tl k n pc lv st := fun H locs ls hP hD hS h => lv_aload_n E.1 E.2.1 hd hi (lv_at h k0 hk) (kk H locs ls hP hD hS h)
theorem B.istore_n (E : Bx x ω A cc nL own fr lo kc ks) {j : Fin 4} {i : Nat} {v : Int32} {lv' : List (Nat × Value)} (hd : decode cc pc = .ok (.istore_n j, 1)) (hi : (j : Nat) = i) (hn : i < nL) (hl : (i, Value.int v) :: lv.filter (fun q => !(q.1 == i) && !(q.1 + 1 == i && q.2.category == 2)) = lv') (kk : B x ω A nL Q gs tl k n (pc + 1) lv' st) : B x ω A nL Q gs tl k n pc lv (.int v :: st) := fun H locs ls hP hD hS h => lv_istore_n E.1 E.2.1 hd hi h hn hl (fun ls2 h2 => kk H locs ls2 hP hD hS h2)
theorem B.astore_n (E : Bx x ω A cc nL own fr lo kc ks) {j : Fin 4} {i : Nat} {v : Nat} {lv' : List (Nat × Value)} (hd : decode cc pc = .ok (.astore_n j, 1)) (hi : (j : Nat) = i) (hn : i < nL) (hl : (i, Value.ref v) :: lv.filter (fun q => !(q.1 == i) && !(q.1 + 1 == i && q.2.category == 2)) = lv') (kk : B x ω A nL Q gs tl k n (pc + 1) lv' st) : B x ω A nL Q gs tl k n pc lv (.ref v :: st) := fun H locs ls hP hD hS h => lv_astore_n E.1 E.2.1 hd hi h hn hl (fun ls2 h2 => kk H locs ls2 hP hD hS h2)
theorem B.iinc (E : Bx x ω A cc nL own fr lo kc ks) {i : Nat} {m : Int} {v w : Int32} {lv' : List (Nat × Value)} (hd : decode cc pc = .ok (.iinc i m, 3)) (k0 : Nat) (hk : lv[k0]? = some (i, .int v)) (hv : v + Int32.ofInt m = w) (hn : i < nL) (hl : (i, Value.int w) :: lv.filter (fun q => !(q.1 == i) && !(q.1 + 1 == i && q.2.category == 2)) = lv') (kk : B x ω A nL Q gs tl k n (pc + 3) lv' st) : B x ω A nL Q gs tl k n pc lv st := fun H locs ls hP hD hS h => lv_iinc E.1 E.2.1 hd h hk hv hn hl (fun ls2 h2 => kk H locs ls2 hP hD hS h2)
theorem B.icmp_ge (E : Bx x ω A cc nL own fr lo kc ks) {a b : Int32} {off : Int} {tgt : Nat} (hd : decode cc pc = .ok (.if_icmp .ge off, 3)) (ht : (pc : Int) + off = (tgt : Int)) (kt : b ≤ a → B x ω A nL Q gs tl k n tgt lv st) (kf : ¬ b ≤ a → B x ω A nL Q gs tl k n (pc + 3) lv st) : B x ω A nL Q gs tl k n pc lv (.int b :: .int a :: st) := fun H locs ls hP hD hS h => lv_icmp_ge E.1 E.2.1 hd ht (fun q => kt q H locs ls hP hD hS h) (fun q => kf q H locs ls hP hD hS h)
theorem B.goto (E : Bx x ω A cc nL own fr lo kc ks) {off : Int} {tgt : Nat} (hd : decode cc pc = .ok (.goto off, 3)) (ht : (pc : Int) + off = (tgt : Int)) (kk : B x ω A nL Q gs tl k n tgt lv st) : B x ω A nL Q gs tl k n pc lv st := fun H locs ls hP hD hS h => lv_goto E.1 E.2.1 hd ht (kk H locs ls hP hD hS h)
theorem oi_in : Cond.instanceMethod Lib.objectInit ∈ tb := tb_in 75 (by decide +kernel) rfl
theorem oi_co : Cond.code Lib.objectInit ⟨#[0xb1]⟩ 1 none ∈ tb := tb_in 76 (by decide +kernel) rfl
theorem ac_I : Cond.arrayClass .int ∈ tb := tb_in 121 (by decide +kernel) rfl
theorem ac_Z : Cond.arrayClass .boolean ∈ tb := tb_in 236 (by decide +kernel) rfl
theorem B.oinit (E : Bx x ω A cc nL own fr lo kc ks) {a idx : Nat} (hm : Cond.methodLink own idx Lib.objectInit ∈ tb) (hfr : 1 ≤ fr) (hlo : 12 ≤ lo) (hd : decode cc pc = .ok (.invokespecial idx, 3)) (kk : B x ω A nL Q gs tl k n (pc + 3) lv []) : B x ω A nL Q gs tl k n pc lv [.ref a] := fun H locs ls hP hD hS h =>
  W.objInit E.1 E.2.1 E.2.2.2.1 (E.2.2.2.2.1 _ hm) (E.2.2.2.2.1 _ oi_in) (E.2.2.2.2.1 _ oi_co) rfl (by rw [E.2.2.1]; exact h.1) rfl hd (Nat.le_trans hfr E.2.2.2.2.2.2.2.1) (Nat.le_trans hlo E.2.2.2.2.2.2.2.2.1) (W.eq (g2 := F0 (xm x) (pc + 3) ls []) rfl (kk H locs ls hP hD hS h))
theorem B.newI (E : Bx x ω A cc nL own fr lo kc ks) {v : Int32} {N : Nat} (hv : ¬ v < 0) (hN : v.toNatClampNeg = N) (hb : N ≤ 1000) (hc : k + 1 ≤ kc) (hs : n + N ≤ ks) (hd : decode cc pc = .ok (.newarray .int, 2)) (kk : ∀ q, B x ω A nL Q gs (tl ++ [(q, .inl (wI ω, N, .inl (fun _ => 0)))]) (k + 1) (n + N) (pc + 2) lv (.ref q :: st)) : B x ω A nL Q gs tl k n pc lv (.int v :: st) := fun H locs ls hP hD hS h =>
  va_newa (atype := .int) (ty := .int) (a0 := (N, .inl (fun _ => 0))) E.1 E.2.1 (E.2.2.2.2.1 _ ac_I) rfl E.2.2.2.2.2.1.1 hP hD hS E.2.2.2.2.2.2.1 (fun _ => rfl) hv hN (by show N * 4 ≤ _; omega) (Nat.le_trans hc E.2.2.2.2.2.2.2.2.2.1) (Nat.le_trans hs E.2.2.2.2.2.2.2.2.2.2) hd (fun q cA H1 hK1 hP1 hD1 hS1 => by
    have e1 := (hK1.2 3 (cA, .int) rfl).2
    have e2 := (E.2.2.2.2.2.1.1.2 0 (wI ω, .int) rfl).2
    have e3 : cA = wI ω := Option.some.inj (e1.symm.trans e2)
    subst e3
    rw [List.append_assoc] at hP1 hD1
    exact kk q H1 locs ls hP1 hD1 hS1 h)
theorem B.newZ (E : Bx x ω A cc nL own fr lo kc ks) {v : Int32} {N : Nat} (hv : ¬ v < 0) (hN : v.toNatClampNeg = N) (hb : N ≤ 1000) (hc : k + 1 ≤ kc) (hs : n + N ≤ ks) (hd : decode cc pc = .ok (.newarray .boolean, 2)) (kk : ∀ q, B x ω A nL Q gs (tl ++ [(q, .inl (wZ ω, N, .inl (fun _ => 0)))]) (k + 1) (n + N) (pc + 2) lv (.ref q :: st)) : B x ω A nL Q gs tl k n pc lv (.int v :: st) := fun H locs ls hP hD hS h =>
  va_newa (atype := .boolean) (ty := .boolean) (a0 := (N, .inl (fun _ => 0))) E.1 E.2.1 (E.2.2.2.2.1 _ ac_Z) rfl E.2.2.2.2.2.1.1 hP hD hS E.2.2.2.2.2.2.1 (fun _ => rfl) hv hN (by show N * 1 ≤ _; omega) (Nat.le_trans hc E.2.2.2.2.2.2.2.2.2.1) (Nat.le_trans hs E.2.2.2.2.2.2.2.2.2.2) hd (fun q cA H1 hK1 hP1 hD1 hS1 => by
    have e1 := (hK1.2 3 (cA, .boolean) rfl).2
    have e2 := (E.2.2.2.2.2.1.1.2 1 (wZ ω, .boolean) rfl).2
    have e3 : cA = wZ ω := Option.some.inj (e1.symm.trans e2)
    subst e3
    rw [List.append_assoc] at hP1 hD1
    exact kk q H1 locs ls hP1 hD1 hS1 h)
theorem B.newG (E : Bx x ω A cc nL own fr lo kc ks) {v : Int32} {N idx : Nat} (hm : Cond.classLink own idx RX3 ∈ tb) (hv : ¬ v < 0) (hN : v.toNatClampNeg = N) (hb : N ≤ 1000) (hc : k + 1 ≤ kc) (hs : n + N ≤ ks) (hd : decode cc pc = .ok (.anewarray idx, 3)) (kk : ∀ q, B x ω A nL Q gs (tl ++ [(q, .inl (wG ω, N, .inr (.inr (.inr (.inr (fun _ => none))))))]) (k + 1) (n + N) (pc + 3) lv (.ref q :: st)) : B x ω A nL Q gs tl k n pc lv (.int v :: st) := fun H locs ls hP hD hS h =>
  va_newq E.1 E.2.1 E.2.2.2.1 (E.2.2.2.2.1 _ hm) E.2.2.2.2.2.1.2.2 E.2.2.2.2.2.1.1 hP hD hS E.2.2.2.2.2.2.1 hv hN (by omega) (Nat.le_trans hc E.2.2.2.2.2.2.2.2.2.1) (Nat.le_trans hs E.2.2.2.2.2.2.2.2.2.2) hd (fun q cA H1 hK1 hP1 hD1 hS1 => by
    obtain ⟨_, _, _, _, _, e1⟩ := (hK1.2 3 (cA, .object RX3) rfl).2
    obtain ⟨_, _, _, _, _, e2⟩ := (E.2.2.2.2.2.1.1.2 2 (wG ω, .object "SkittleGentry$Gentry") rfl).2
    have e3 : cA = wG ω := Option.some.inj (e1.symm.trans e2)
    subst e3
    rw [List.append_assoc] at hP1 hD1
    exact kk q H1 locs ls hP1 hD1 hS1 h)
theorem B.newO (E : Bx x ω A cc nL own fr lo kc ks) {C : String} {T : u_T} {N ci idx : Nat} {ty : Nat → FieldType} {fs : List Value} (hm : Cond.classLink own idx C ∈ tb) (hi : Cond.instantiable C N ∈ tb) (hini : Cond.initialized C ∈ tb) (hin : ∀ w ∈ u_ws C T N, w ∈ tb) (hty : ∀ k, k < N → parseFieldDescriptor (T k).2.2.1 = some (ty k)) (hcl : cls[ci]? = some (C, T, N)) (hfs : ∀ j, j < N → defaultValue (ty j) = vp_V fs j) (hc : k + 1 ≤ kc) (hs : n + N ≤ ks) (hd : decode cc pc = .ok (.new idx, 3)) (kk : ∀ q, B x ω A nL Q gs (tl ++ [(q, .inr (ci, fs))]) (k + 1) (n + N) (pc + 3) lv (.ref q :: st)) : B x ω A nL Q gs tl k n pc lv st := fun H locs ls hP hD hS h =>
  va_new E.1 E.2.1 E.2.2.2.2.1 hin ty hty E.2.2.2.1 (E.2.2.2.2.1 _ hm) (E.2.2.2.2.1 _ hi) (E.2.2.2.2.1 _ hini) E.2.2.2.2.2.1.1 hP hD hS E.2.2.2.2.2.2.1 hcl hfs (Nat.le_trans hc E.2.2.2.2.2.2.2.2.2.1) (Nat.le_trans hs E.2.2.2.2.2.2.2.2.2.2) hd (fun q H1 hP1 hD1 hS1 => by
    rw [List.append_assoc] at hP1 hD1
    exact kk q H1 locs ls hP1 hD1 hS1 h)
theorem tl_at {g t : va_W} {k0 : Nat} {c : Nat × va_E} (h : t[k0]? = some c) : (g ++ t)[g.length + k0]? = some c := by
  rw [List.getElem?_append_right (by omega), show g.length + k0 - g.length = k0 by omega]; exact h
theorem tl_set {g t : va_W} {k0 : Nat} {c : Nat × va_E} : (g ++ t).set (g.length + k0) c = g ++ t.set k0 c := by
  rw [List.set_append_right _ _ (by omega), show g.length + k0 - g.length = k0 by omega]
theorem B.putF (E : Bx x ω A cc nL own fr lo kc ks) (I : Ini x) {T : u_T} {N ci a idx : Nat} {ty0 : Nat → FieldType} {fs : List Value} {tl' : va_W} {v : Value} (hin : ∀ w ∈ u_ws own T N, w ∈ tb) (hty : ∀ k, k < N → parseFieldDescriptor (T k).2.2.1 = some (ty0 k)) (hnm : ∀ a, a < N → ∀ b, b < N → a ≠ b → (T a).2.1 ≠ (T b).2.1) (hcl : cls[ci]? = some (own, T, N)) (k0 : Nat) (he : tl[k0]? = some (a, .inr (ci, fs))) (kf : Nat) (hk : kf < N) (hm : Cond.fieldLink own idx (T kf).1 (T kf).2.1 (T kf).2.2.1 ∈ tb) (hfin : (T kf).2.2.2 = true) (hdecl : (T kf).1 = own) (hn : narrow (ty0 kf) v = v) (hfit : fits (ty0 kf) v = true) (hl : kf < fs.length) (htl : tl.set k0 (a, .inr (ci, fs.set kf v)) = tl') (hd : decode cc pc = .ok (.putfield idx, 3)) (kk : B x ω A nL Q gs tl' k n (pc + 3) lv st) : B x ω A nL Q gs tl k n pc lv (v :: .ref a :: st) := fun H locs ls hP hD hS h =>
  va_putF E.1 E.2.1 E.2.2.2.2.1 hin ty0 hty hnm E.2.2.2.1 E.2.2.2.2.2.1.1 hP hD hS (gs.length + k0) (tl_at he) hcl kf hk (E.2.2.2.2.1 _ hm) (fun _ h9 => h9) hfin I.2.2 hdecl (hty kf hk) hn hfit hl hd (fun H1 l1 hP1 hD1 hS1 => by
    rw [tl_set, htl] at hP1 hD1
    exact kk H1 l1 ls hP1 hD1 hS1 h)
theorem B.put (E : Bx x ω A cc nL own fr lo kc ks) {T : u_T} {N ci a idx : Nat} {ty0 : Nat → FieldType} {fs : List Value} {tl' : va_W} {v : Value} (hin : ∀ w ∈ u_ws own T N, w ∈ tb) (hty : ∀ k, k < N → parseFieldDescriptor (T k).2.2.1 = some (ty0 k)) (hnm : ∀ a, a < N → ∀ b, b < N → a ≠ b → (T a).2.1 ≠ (T b).2.1) (hcl : cls[ci]? = some (own, T, N)) (k0 : Nat) (he : tl[k0]? = some (a, .inr (ci, fs))) (kf : Nat) (hk : kf < N) (hm : Cond.fieldLink own idx (T kf).1 (T kf).2.1 (T kf).2.2.1 ∈ tb) (hfin : (T kf).2.2.2 = false) (hn : narrow (ty0 kf) v = v) (hfit : fits (ty0 kf) v = true) (hl : kf < fs.length) (htl : tl.set k0 (a, .inr (ci, fs.set kf v)) = tl') (hd : decode cc pc = .ok (.putfield idx, 3)) (kk : B x ω A nL Q gs tl' k n (pc + 3) lv st) : B x ω A nL Q gs tl k n pc lv (v :: .ref a :: st) := fun H locs ls hP hD hS h =>
  va_put E.1 E.2.1 E.2.2.2.2.1 hin ty0 hty hnm E.2.2.2.1 E.2.2.2.2.2.1.1 hP hD hS (gs.length + k0) (tl_at he) hcl kf hk (E.2.2.2.2.1 _ hm) (fun _ h9 => h9) hfin (hty kf hk) hn hfit hl hd (fun H1 l1 hP1 hD1 hS1 => by
    rw [tl_set, htl] at hP1 hD1
    exact kk H1 l1 ls hP1 hD1 hS1 h)
theorem B.get (E : Bx x ω A cc nL own fr lo kc ks) {T : u_T} {N ci a idx : Nat} {fs : List Value} {v : Value} (hin : ∀ w ∈ u_ws own T N, w ∈ tb) (hcl : cls[ci]? = some (own, T, N)) (k0 : Nat) (he : tl[k0]? = some (a, .inr (ci, fs))) (kf : Nat) (hk : kf < N) (hm : Cond.fieldLink own idx (T kf).1 (T kf).2.1 (T kf).2.2.1 ∈ tb) (hv : fs[kf]? = some v) (hd : decode cc pc = .ok (.getfield idx, 3)) (kk : B x ω A nL Q gs tl k n (pc + 3) lv (v :: st)) : B x ω A nL Q gs tl k n pc lv (.ref a :: st) := fun H locs ls hP hD hS h =>
  va_get E.1 E.2.1 E.2.2.2.2.1 hin E.2.2.2.1 E.2.2.2.2.2.1.1 hP (gs.length + k0) (tl_at he) hcl kf hk (E.2.2.2.2.1 _ hm) (fun _ h9 => h9) hv hd (kk H locs ls hP hD hS h)
theorem B.iast (E : Bx x ω A cc nL own fr lo kc ks) {a N : Nat} {f f' : Nat → Int32} {tl' : va_W} (k0 : Nat) (he : tl[k0]? = some (a, .inl (wI ω, N, .inl f))) {i v : Int32} {j : Nat} (hi : vp_in i N) (hj : i.toNatClampNeg = j) (hf : upd f j v = f') (htl : tl.set k0 (a, .inl (wI ω, N, .inl f')) = tl') (hd : decode cc pc = .ok (.iastore, 1)) (kk : B x ω A nL Q gs tl' k n (pc + 1) lv st) : B x ω A nL Q gs tl k n pc lv (.int v :: .int i :: .ref a :: st) := fun H locs ls hP hD hS h =>
  va_iast E.1 E.2.1 E.2.2.2.2.2.1.1 hP hD hS (gs.length + k0) 0 (tl_at he) rfl hi hd (fun H1 l1 hP1 hD1 hS1 => by
    rw [hj, hf, tl_set, htl] at hP1 hD1
    exact kk H1 l1 ls hP1 hD1 hS1 h)
theorem B.gast (E : Bx x ω A cc nL own fr lo kc ks) {a N v : Nat} {f f' : Nat → Option Nat} {tl' : va_W} {vs : List Value} (k0 : Nat) (he : tl[k0]? = some (a, .inl (wG ω, N, .inr (.inr (.inr (.inr f)))))) (hv : (v, .inr (3, vs)) ∈ gs) {i : Int32} {j : Nat} (hi : vp_in i N) (hj : i.toNatClampNeg = j) (hf : va_up f j (some v) = f') (htl : tl.set k0 (a, .inl (wG ω, N, .inr (.inr (.inr (.inr f'))))) = tl') (hd : decode cc pc = .ok (.aastore, 1)) (kk : B x ω A nL Q gs tl' k n (pc + 1) lv st) : B x ω A nL Q gs tl k n pc lv (.ref v :: .int i :: .ref a :: st) := fun H locs ls hP hD hS h => by
  obtain ⟨qk, hqk⟩ := List.mem_iff_getElem?.mp hv
  have hlt : qk < gs.length := (List.getElem?_eq_some_iff.mp hqk).1
  exact va_astq (ci := 3) (r := (RX3, TX3, 12)) E.1 E.2.1 E.2.2.2.2.2.1.1 hP hD hS (gs.length + k0) 2 qk (tl_at he) rfl (by rw [List.getElem?_append_left hlt]; exact hqk) rfl hi hd (fun H1 l1 hP1 hD1 hS1 => by
    rw [hj, hf, tl_set, htl] at hP1 hD1
    exact kk H1 l1 ls hP1 hD1 hS1 h)
/-- a maker's contract: from one new cell, groups and the rest -/
def MK (l : Launch) (ω : Wd) (y : MethodName) (b : ByteArray) (nl : Nat) (fr lo mc ms : Nat) (e0 : va_E) (R : Nat → va_W × va_W → Prop) : Prop :=
  ∀ h0 sz : Nat, Met l y (Cond.code y b nl none :: tb) { frames := fr, cells := mc, slots := ms, locals := lo } (va_Pc [.ref h0] (fun U => U.heap.size = sz ∧ va_P (wD ω) cls [(h0, e0)] U.heap ∧ KB ω U)) (va_Qv (S := va_W × va_W) (R h0) (fun u t => va_P (wD ω) cls (u.1 ++ u.2) t.heap ∧ va_D (va_A [(h0, e0)] sz) (u.1 ++ u.2)) (va_A [(h0, e0)] sz)) mc ms (va_A [(h0, e0)] sz)
def qB (x : Mx) (ω : Wd) (A : Nat → Prop) (mc ms : Nat) (R : va_W × va_W → Prop) : State → Prop := MQ (xb x) (va_Qv (S := va_W × va_W) R (fun u t => va_P (wD ω) cls (u.1 ++ u.2) t.heap ∧ va_D A (u.1 ++ u.2)) A) (xa x) (xs x) mc ms A
theorem MK.intro {l : Launch} {ω : Wd} {y : MethodName} {b : ByteArray} {nl fr lo mc ms : Nat} {e0 : va_E} {R : Nat → va_W × va_W → Prop} (hy : plainName y.cls = true) (hname : y.name = "<init>") (hnl : 1 ≤ nl) (body : ∀ (h0 : Nat) (x : Mx) (A : Nat → Prop), xl x = l → Bx x ω A b nl y.cls fr lo mc ms → Ini x → B x ω A nl (qB x ω A mc ms (R h0)) [] [(h0, e0)] 0 0 0 [(0, .ref h0)] []) : MK l ω y b nl fr lo mc ms e0 R := by
  intro h0 sz
  refine Met.ofW (cc := b) (maxL := nl) (ret := none) hy rfl ?_
  intro p e s m args below meth c s₁ X hml hv
  obtain ⟨rfl, hsz, hP, hK⟩ := hv
  subst hsz
  have hts := atoms_spec (ws := Cond.code y b nl none :: tb) X.pre
  have h := body h0 (p, l, e, (headSpec (Cond.code y b nl none :: tb) { frames := fr, cells := mc, slots := ms, locals := lo }).room, s, m, [Value.ref h0].toArray, below, meth, c, 0, 0) (va_A [(h0, e0)] s.heap.size) rfl ⟨X.exec, X.bytes, hml, findClass_of_methodNamed X.named, fun w hw => hts w (List.mem_cons_of_mem _ hw), hK, fun q h => Or.inr h, Nat.le_refl _, Nat.le_refl _, Nat.le_refl _, Nat.le_refl _⟩ ⟨X.returns, X.notSynchronized, by rw [(name_of_methodNamed X.named X.method).1, hname]⟩ s.heap [] _ hP ⟨fun i j p q hp hq _ => by
    have h1 : i < 1 := (List.getElem?_eq_some_iff.mp hp).1
    have h2 : j < 1 := (List.getElem?_eq_some_iff.mp hq).1
    omega, fun k q hk => va_A.in hk⟩ va_S.rf (lv_entry [.ref h0] hnl)
  rw [lg_entry_eq]
  exact h
theorem B.vret (E : Bx x ω A cc nL own fr lo kc ks) (I : Ini x) {R : va_W × va_W → Prop} (hk : k ≤ kc) (hn : n ≤ ks) (hR : R (gs, tl)) (hd : decode cc pc = .ok (.return_, 1)) : B x ω A nL (qB x ω A kc ks R) gs tl k n pc lv [] := fun H locs ls hP hD hS h =>
  W.widen (k := kc) (n := ks) hk hn (W.vret E.1 E.2.1 I.1 (fun t ht hW => ⟨⟨(gs, tl), rfl, hR, by rw [ht]; exact hP, hD⟩, hS.F ht⟩) hS.2.2 hd I.2.1)
/-- behind a maker -/
theorem bw_join {g t : va_W} {q : Nat} {e0 : va_E} {u : va_W × va_W} {D : va_G} {H H1 : Heap} (hP : va_P D cls (g ++ (t ++ [(q, e0)])) H) (hD : va_D A (g ++ (t ++ [(q, e0)]))) (hk : ∀ a : Nat, a < H.size → ¬ va_A [(q, e0)] H.size a → H1[a]? = H[a]?) (hF : ∀ a, va_A [(q, e0)] H.size a → A a) (hP1 : va_P D cls (u.1 ++ u.2) H1) (hD1 : va_D (va_A [(q, e0)] H.size) (u.1 ++ u.2)) : va_P D cls ((g ++ u.1) ++ (t ++ u.2)) H1 ∧ va_D A ((g ++ u.1) ++ (t ++ u.2)) := by
  rw [← List.append_assoc] at hP hD
  have old : ∀ (i : Nat) (c : Nat × va_E), (g ++ t)[i]? = some c → ((g ++ t) ++ [(q, e0)])[i]? = some c := fun i c hc => by
    rw [List.getElem?_append_left (List.getElem?_eq_some_iff.mp hc).1]; exact hc
  have new : ((g ++ t) ++ [(q, e0)])[(g ++ t).length]? = some (q, e0) := by
    rw [List.getElem?_append_right (Nat.le_refl _), Nat.sub_self]; rfl
  have apart : ∀ (i : Nat) (c : Nat × va_E), (g ++ t)[i]? = some c → c.1 < H.size ∧ ¬ va_A [(q, e0)] H.size c.1 := by
    intro i c hc
    have hl := (hP i c (old i c hc)).lt
    refine ⟨hl, fun z => ?_⟩
    rcases z with ⟨j, e, z⟩ | z
    · have hj : j < 1 := (List.getElem?_eq_some_iff.mp z).1
      rw [show j = 0 by omega] at z
      have z2 : q = c.1 := (Prod.mk.inj (Option.some.inj z)).1
      have := hD.1 i (g ++ t).length c (q, e0) (old i c hc) new z2.symm
      have h3 : i < (g ++ t).length := (List.getElem?_eq_some_iff.mp hc).1
      omega
    · omega
  have hP0 : va_P D cls (g ++ t) H1 := fun i c hc => (hP i c (old i c hc)).kept (hk c.1 (apart i c hc).1 (apart i c hc).2)
  have hD0 : va_D A (g ++ t) := ⟨fun i j a b ha hb e => hD.1 i j a b (old i a ha) (old j b hb) e, fun i c hc => hD.2 i c (old i c hc)⟩
  have hp := hP0.app hP1
  have hd := va_D.app hD0 (hD1.weaken (fun i c _ h => hF c.1 h)) (fun i j a b ha hb e => (apart i a ha).2 (by rw [e]; exact hD1.2 j b hb))
  exact ⟨hp.perm (bw_perm g t u.1 u.2), hd.perm (bw_perm g t u.1 u.2)⟩
theorem bw_pre {y : MethodName} {b : ByteArray} {q : Nat} {e0 : va_E} {H : Heap} {locs : List Loc} (E : Bx x ω A cc nL own fr lo kc ks) (hP : va_P (wD ω) cls (gs ++ (tl ++ [(q, e0)])) H) : PreS (xs x) H (va_Pc [.ref q] (fun U => U.heap.size = H.size ∧ va_P (wD ω) cls [(q, e0)] U.heap ∧ KB ω U)) [.ref q] :=
  ⟨fun a U g mk z => ⟨z.1, z.2.1, z.2.2.1, z.2.2.2.call⟩, fun U hU hW => ⟨rfl, by rw [hU], by
    rw [hU]
    exact va_P.all.mpr (fun c hc => va_P.all.mp hP c (List.mem_append_right _ (List.mem_append_right _ hc))), E.2.2.2.2.2.1.warm hW⟩⟩
theorem bw_free {q : Nat} {e0 : va_E} {H : Heap} {locs : List Loc} (E : Bx x ω A cc nL own fr lo kc ks) (hD : va_D A (gs ++ (tl ++ [(q, e0)]))) (hS : va_S A (xs x).heap H locs) : ∀ a, va_A [(q, e0)] H.size a → A a := by
  intro a z
  rcases z with ⟨j, e, z⟩ | z
  · exact (va_D.all.mp hD).2 _ (List.mem_append_right _ (List.mem_append_right _ (List.mem_of_getElem? z)))
  · exact E.2.2.2.2.2.2.1 a (Nat.le_trans hS.1 z)
theorem B.ini (E : Bx x ω A cc nL own fr lo kc ks) {y : MethodName} {b : ByteArray} {nl frc loc mc ms idx q : Nat} {C : String} {e0 : va_E} {R : Nat → va_W × va_W → Prop} {rest : List Value} (K : CalI y b nl C 0) (hM : MK (xl x) ω y b nl frc loc mc ms e0 R) (hm : Cond.methodLink own idx y ∈ tb) (hR : frc + 1 ≤ fr ∧ 8 + (nl + 11) + loc ≤ lo) (hc : k + mc ≤ kc) (hs : n + ms ≤ ks) (hW : (rest.map fun v => v.category).sum ≤ 8) (hd : decode cc pc = .ok (.invokespecial idx, 3))
    (kk : ∀ u, R q u → B x ω A nL Q (gs ++ u.1) (tl ++ u.2) (k + mc) (n + ms) (pc + 3) lv rest) : B x ω A nL Q gs (tl ++ [(q, e0)]) k n pc lv (.ref q :: rest) := fun H locs ls hP hD hS h => by
  obtain ⟨k1, k2, k4, k5, k6, k7, k8, k9⟩ := K
  have hF := bw_free E hD hS
  exact va_callv (va_runI (As := []) (rest := rest) ⟨E.1, E.2.1, E.2.2.1, E.2.2.2.1, E.2.2.2.2.1⟩ (hM q H.size) (cwI 0 E.2.2.2.2.1 (tb_gd k1) rfl rfl rfl (E.2.2.2.2.1 _ (by rw [k5]; exact k4)) (E.2.2.2.2.1 _ hm) (E.2.2.2.2.1 _ k2) k6 ⟨k7, k8, k9⟩ ⟨Nat.le_trans hR.1 E.2.2.2.2.2.2.2.1, Nat.le_trans hR.2 E.2.2.2.2.2.2.2.2.1⟩) (bw_pre (y := y) (b := b) (locs := locs) E hP) rfl rfl h.1 rfl (lv_room (pc := pc) (ls := ls) (rest := .ref q :: rest) hW) hd ⟨Nat.le_trans hc E.2.2.2.2.2.2.2.2.2.1, Nat.le_trans hs E.2.2.2.2.2.2.2.2.2.2⟩) hS (fun a _ z => hF a z) hF (fun u t H1 l1 ht hvm hp hB hz1 hk1 hS1 => by
    obtain ⟨hP1, hD1⟩ := hB
    rw [ht] at hP1
    obtain ⟨hP2, hD2⟩ := bw_join hP hD hk1 hF hP1 hD1
    exact kk u hp H1 l1 ls hP2 hD2 hS1 h)
theorem B.iniN (E : Bx x ω A cc nL own fr lo kc ks) {y : MethodName} {b : ByteArray} {nl frc loc mc ms idx q : Nat} {C host : String} {e0 : va_E} {R : Nat → va_W × va_W → Prop} {rest : List Value} (K : CalI y b nl C 0) (hM : MK (xl x) ω y b nl frc loc mc ms e0 R) (hm : Cond.methodLinkNest own idx y host ∈ nws) (hR : frc + 1 ≤ fr ∧ 8 + (nl + 11) + loc ≤ lo) (hc : k + mc ≤ kc) (hs : n + ms ≤ ks) (hW : (rest.map fun v => v.category).sum ≤ 8) (hd : decode cc pc = .ok (.invokespecial idx, 3))
    (kk : ∀ u, R q u → B x ω A nL Q (gs ++ u.1) (tl ++ u.2) (k + mc) (n + ms) (pc + 3) lv rest) : B x ω A nL Q gs (tl ++ [(q, e0)]) k n pc lv (.ref q :: rest) := fun H locs ls hP hD hS h => by
  obtain ⟨k1, k2, k4, k5, k6, k7, k8, k9⟩ := K
  have hF := bw_free E hD hS
  exact va_callv (va_runIN (As := []) (rest := rest) ⟨E.1, E.2.1, E.2.2.1, E.2.2.2.1, E.2.2.2.2.1⟩ (hM q H.size) ⟨va_cnB 0 E.2.2.2.2.1 (tb_gd k1) rfl rfl rfl (E.2.2.2.2.2.1.2.1 _ hm) (E.2.2.2.2.1 _ (by rw [k5]; exact k4)) ⟨k7, k8, k9⟩ ⟨Nat.le_trans hR.1 E.2.2.2.2.2.2.2.1, Nat.le_trans hR.2 E.2.2.2.2.2.2.2.2.1⟩, k6, E.2.2.2.2.1 _ k2⟩ (bw_pre (y := y) (b := b) (locs := locs) E hP) rfl rfl h.1 rfl (lv_room (pc := pc) (ls := ls) (rest := .ref q :: rest) hW) hd ⟨Nat.le_trans hc E.2.2.2.2.2.2.2.2.2.1, Nat.le_trans hs E.2.2.2.2.2.2.2.2.2.2⟩) hS (fun a _ z => hF a z) hF (fun u t H1 l1 ht hvm hp hB hz1 hk1 hS1 => by
    obtain ⟨hP1, hD1⟩ := hB
    rw [ht] at hP1
    obtain ⟨hP2, hD2⟩ := bw_join hP hD hk1 hF hP1 hD1
    exact kk u hp H1 l1 ls hP2 hD2 hS1 h)
end BL
