theorem Cx.w {x : Mx} {ω : Wd} {cc : ByteArray} {nL : Nat} {own : String} {ret : Option FieldType} {fr lo : Nat} (E : Cx x ω cc nL own ret fr lo) : WD ω := E.2.2.2.2.2.2.2.2.1
theorem bfit {v : Int32} (h : narrow .boolean (.int v) = .int v) : fits .boolean (.int v) = true := by
  have h1 : v &&& 1 = v := by
    have h2 : (Value.int (v &&& 1)) = .int v := h
    exact Value.int.inj h2
  obtain ⟨j, hj, e⟩ := pk_andE v (m := 1) 1 (by decide)
  rw [h1] at e
  rcases (show j = 0 ∨ j = 1 by omega) with rfl | rfl
  · rw [e]; decide
  · rw [e]; decide
theorem sw_out {a : Int32} {lo hi : Int} {n : Nat} (f : ∀ k : Nat, k < n → ¬ a = Int32.ofInt (lo + k)) (hn : hi + 1 ≤ lo + n := by decide) : a.toInt < lo ∨ hi < a.toInt := by
  rcases Int.lt_or_le a.toInt lo with h | h
  · exact Or.inl h
  · rcases Int.lt_or_le hi a.toInt with h2 | h2
    · exact Or.inr h2
    · exfalso
      refine f (a.toInt - lo).toNat (by omega) ?_
      rw [show lo + ((a.toInt - lo).toNat : Int) = a.toInt by omega]
      exact (Int32.ofInt_toInt a).symm
theorem MVl.intro {l : Launch} {ω : Wd} {y : MethodName} {b : ByteArray} {n : Nat} {fr lo : Nat} {av : List Value} {σ : St} {P : St → Prop} (hw : WD ω) (hy : plainName y.cls = true) (hlen : (lg_sl av).length ≤ n) (body : ∀ x : Mx, xl x = l → Cx x ω b n y.cls none fr lo → G x ω n (qV x ω P) σ 0 (lv_args 0 av) []) : MV l ω y b n fr lo av σ P := by
  refine Met.ofW (cc := b) (maxL := n) (ret := none) hy rfl ?_
  intro p e s m args below meth c s₁ B hml hv
  obtain ⟨rfl, hP, hK⟩ := hv
  have hts := atoms_spec (ws := Cond.code y b n none :: tb) B.pre
  have h := body (p, l, e, (headSpec (Cond.code y b n none :: tb) (rmO fr lo)).room, s, m, av.toArray, below, meth, c, 0, 0) rfl ⟨B.exec, B.bytes, hml, findClass_of_methodNamed B.named, fun w hw => hts w (List.mem_cons_of_mem _ hw), B.returns, B.notSynchronized, hK, hw, Nat.le_refl _, Nat.le_refl _, Nat.zero_le _, Nat.zero_le _⟩ s.heap [] _ hP va_S.rf (lv_entry av hlen)
  rw [lg_entry_eq]
  exact h
section GD
variable {x : Mx} {ω : Wd} {cc : ByteArray} {nL : Nat} {own : String} {ret : Option FieldType} {fr lo : Nat} {Q : State → Prop} {σ : St} {pc : Nat} {lv : List (Nat × Value)} {st : List Value}
theorem G.ialdC (E : Cx x ω cc nL own ret fr lo) {q n : Nat} (O : isI q n) {i : Int32} (hi : vp_in i n) {j : Nat} (hj : i.toNatClampNeg = j) (hd : decode cc pc = .ok (.iaload, 1)) (k : G x ω nL Q σ (pc + 1) lv (.int (σ q j) :: st)) : G x ω nL Q σ pc lv (.int i :: .ref (wh ω q) :: st) := by
  subst hj; exact G.iald E O hi hd k
theorem G.zaldC (E : Cx x ω cc nL own ret fr lo) {q n : Nat} (O : isZ q n) {i : Int32} (hi : vp_in i n) {j : Nat} (hj : i.toNatClampNeg = j) (hd : decode cc pc = .ok (.baload, 1)) (k : G x ω nL Q σ (pc + 1) lv (.int (σ q j) :: st)) : G x ω nL Q σ pc lv (.int i :: .ref (wh ω q) :: st) := by
  subst hj; exact G.zald E O hi hd k
theorem G.iastC (E : Cx x ω cc nL own ret fr lo) {q n : Nat} (O : isI q n) {i v : Int32} (hi : vp_in i n) {j : Nat} (hj : i.toNatClampNeg = j) (hd : decode cc pc = .ok (.iastore, 1)) (k : G x ω nL Q (su σ q j v) (pc + 1) lv st) : G x ω nL Q σ pc lv (.int v :: .int i :: .ref (wh ω q) :: st) := by
  subst hj; exact G.iast E O hi hd k
theorem G.zastC (E : Cx x ω cc nL own ret fr lo) {q n : Nat} (O : isZ q n) {i v : Int32} (hi : vp_in i n) {j : Nat} (hj : i.toNatClampNeg = j) (hd : decode cc pc = .ok (.bastore, 1)) (k : G x ω nL Q (su σ q j (vp_nar .boolean v)) (pc + 1) lv st) : G x ω nL Q σ pc lv (.int v :: .int i :: .ref (wh ω q) :: st) := by
  subst hj; exact G.zast E O hi hd k
end GD
/-- a state (a number) gets a name -/
def bindS (e : St) (F : St → Prop) : Prop := F e
def bindI (e : Int32) (F : Int32 → Prop) : Prop := F e
def bindL (e : Int64) (F : Int64 → Prop) : Prop := F e
/-- a row of nine is copied -/
def cp (σ : St) (q q1 : Nat) : St := sa σ q1 (va_cpy (σ q) (σ q1) 0 0 9)
section GE
variable {x : Mx} {ω : Wd} {cc : ByteArray} {nL : Nat} {own : String} {ret : Option FieldType} {fr lo : Nat} {Q : State → Prop} {σ : St} {pc : Nat} {lv : List (Nat × Value)} {st : List Value}
theorem G.bnd {e : St} {F : St → Prop} (h : bindS e F) (k : ∀ σ', F σ' → G x ω nL Q σ' pc lv st) : G x ω nL Q e pc lv st := k e h
theorem G.bndI {i : Nat} {e : Int32} {F : Int32 → Prop} (h : bindI e F) (k : ∀ v, F v → G x ω nL Q σ pc ((i, .int v) :: lv) st) : G x ω nL Q σ pc ((i, .int e) :: lv) st := k e h
theorem G.bndL {i : Nat} {e : Int64} {F : Int64 → Prop} (h : bindL e F) (k : ∀ v, F v → G x ω nL Q σ pc ((i, .long v) :: lv) st) : G x ω nL Q σ pc ((i, .long e) :: lv) st := k e h
theorem G.cp9 (E : Cx x ω cc nL own ret fr lo) {q q1 idx : Nat} (O0 : isI q 9) (O1 : isI q1 9) (hm : Cond.methodLink own idx arraycopyName ∈ tb) (hfr : 1 ≤ fr) (hlo : (st.map fun v => v.category).sum + (nativeFrameWords "java/lang/System" "arraycopy" 5 + 11) ≤ lo) (hd : decode cc pc = .ok (.invokestatic idx, 3)) (k : G x ω nL Q (cp σ q q1) (pc + 3) lv st) : G x ω nL Q σ pc lv (.int 9 :: .int 0 :: .ref (wh ω q1) :: .int 0 :: .ref (wh ω q) :: st) := G.copy9 E O0 O1 hm hfr hlo hd k
end GE
