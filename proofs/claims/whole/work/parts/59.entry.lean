theorem B.gsP {x : Mx} {ω : Wd} {A : Nat → Prop} {nL : Nat} {Q : State → Prop} {gs gs' tl : va_W} {k n : Nat} {pc : Nat} {lv : List (Nat × Value)} {st : List Value} (p : gs.Perm gs') (kk : B x ω A nL Q gs' tl k n pc lv st) : B x ω A nL Q gs tl k n pc lv st := fun H locs ls hP hD hS h => kk H locs ls (hP.perm (p.append_right tl)) (hD.perm (p.append_right tl)) hS h
/-- the law, from its entry to the loop -/
theorem law_entry {x : Mx} {ω : Wd} {A : Nat → Prop} {Q : State → Prop} {b : Nat} (E : Bx x ω A cL_law 4 RL 4 100 205 6913) (hl : xk x = 0 ∧ xn x = 0)
    (kk : ∀ (t t2 na nb ia ib : Nat → Nat) (gl : List (Nat → Nat)), gl.length = 16 → B x ω A 4 Q ((na :: nb :: ia :: ib :: gl).flatMap (grp ω)) (tlX7 ω t (na 0) (nb 0) gl [ia, ib] ++ tlX8 ω t2) 205 6913 18 [(0, .ref b), (1, .ref (t 0)), (2, .ref (t2 0)), (3, .int 0)] []) : B x ω A 4 Q [] [] 0 0 0 [(0, .ref b)] [] := by
  refine B.newO (C := RX7) (T := TX7) (N := 13) (ci := 7) (ty := tyX7) (fs := [.null, .null, .null, .null, .null, .null, .null, .null, .null, .null, .null, .int 0, .int 0]) E cl_RL_7 is_RX7 in_RX7 uw_X7 tyX7_ok rfl fs_X7 (by omega) (by omega) dL_law_0 (fun q => ?_)
  refine B.dup E dL_law_3 rfl ?_
  refine B.ini (q := q) (rest := [.ref q]) E ca_X7_init (mk_X7 _ ω) lk_RL_9 ⟨by decide, by decide⟩ (by omega) (by omega) (by simp [Value.category]) dL_law_4 (fun u hu => ?_)
  obtain ⟨t, na, nb, gl, il, t0, hgl, hil, rfl⟩ := hu
  subst t0
  obtain ⟨ia, ib, rfl⟩ : ∃ ia ib, il = [ia, ib] := by
    match il, hil with
    | [ia, ib], _ => exact ⟨ia, ib, rfl⟩
  refine B.nrm (gs' := ([na, nb] ++ gl ++ [ia, ib]).flatMap (grp ω)) (tl' := tlX7 ω t (na 0) (nb 0) gl [ia, ib]) rfl rfl ?_
  refine B.astore_n (lv' := [(1, .ref (t 0)), (0, .ref b)]) E dL_law_7 (i := 1) rfl (by decide) rfl ?_
  refine B.newO (C := RX8) (T := TX8) (N := 35) (ci := 8) (ty := tyX8) (fs := [.int 0, .null, .int 0, .int 0, .int 0, .int 0, .int 0, .int 0, .int 0, .int 0, .int 0, .int 0, .null, .null, .null, .null, .null, .null, .int 0, .null, .null, .int 0, .null, .null, .null, .null, .int 0, .int 0, .int 0, .null, .null, .null, .null, .null, .null]) E cl_RL_10 is_RX8 in_RX8 uw_X8 tyX8_ok rfl fs_X8 (by omega) (by omega) dL_law_8 (fun q => ?_)
  refine B.dup E dL_law_11 rfl ?_
  refine B.ini (q := q) (rest := [.ref q]) E ca_X8_init (mk_X8 _ ω) lk_RL_12 ⟨by decide, by decide⟩ (by omega) (by omega) (by simp [Value.category]) dL_law_12 (fun u hu => ?_)
  obtain ⟨t2, t20, rfl⟩ := hu
  subst t20
  refine B.nrm (gs' := ([na, nb] ++ gl ++ [ia, ib]).flatMap (grp ω)) (tl' := tlX7 ω t (na 0) (nb 0) gl [ia, ib] ++ tlX8 ω t2) (List.append_nil _) rfl ?_
  refine B.astore_n (lv' := [(2, .ref (t2 0)), (1, .ref (t 0)), (0, .ref b)]) E dL_law_15 (i := 2) rfl (by decide) rfl ?_
  refine B.iconst (v := 0) E dL_law_16 (by decide) ?_
  refine B.istore_n (lv' := [(3, .int 0), (2, .ref (t2 0)), (1, .ref (t 0)), (0, .ref b)]) E dL_law_17 (i := 3) rfl (by decide) rfl ?_
  refine B.sub [3, 2, 1, 0] rfl ?_
  refine B.gsP (gs' := (na :: nb :: ia :: ib :: gl).flatMap (grp ω)) (List.Perm.flatMap_right _ ?_) ?_
  · exact List.Perm.append_left [na, nb] (List.perm_append_comm (l₁ := gl) (l₂ := [ia, ib]))
  · refine B.kn (k' := 205) (n' := 6913) rfl rfl ?_
    exact kk t t2 na nb ia ib gl hgl
